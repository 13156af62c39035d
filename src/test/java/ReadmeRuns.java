import java.io.IOException;
import java.lang.reflect.Method;
import java.lang.reflect.Modifier;
import java.nio.file.Files;
import java.nio.file.Path;
import java.util.ArrayList;
import java.util.List;
import java.util.Set;
import java.util.TreeSet;
import java.util.regex.Matcher;
import java.util.regex.Pattern;

/** README.md tells each promise and each test by its name, and its examples answer what is told beside them. */
public final class ReadmeRuns extends Bench {
    private static final Path PAGE = Path.of("README.md");
    private static final Path PROMISES = Path.of("../shared/DOC.md");
    private static final Path TESTS = Path.of("src/test/java");

    private static final Pattern PROMISE = Pattern.compile("## Promise (\\d+): [^\n]*\n\n`([^`]*)`");
    private static final Pattern BLOCK = Pattern.compile("```java\n(.*?)```", Pattern.DOTALL);
    private static final Pattern ASKED = Pattern.compile("x\\.(\\w+)\\((.*)\\); +// (-?\\d+|true|false)(:.*)?");
    private static final Pattern FED = Pattern.compile("bytes\\(x, ([0-9, ]*)\\);");
    private static final Pattern TEXT = Pattern.compile("text\\(x, \"([^\"]*)\"\\)");
    private static final String MADE = "HomesickStamps x = new HomesickStamps();";

    private static final Set<String> shown = new TreeSet<>();

    public static void main(String[] args) throws IOException, ReflectiveOperationException {
        String page = Files.readString(PAGE);
        promisesStandThere(page);
        Matcher blocks = BLOCK.matcher(page);
        while (blocks.find()) {
            String block = blocks.group(1);
            if (block.startsWith(MADE)) {
                example(block.split("\n"));
            } else {
                helpersAreAsInBench(block);
            }
        }
        eachCallIsShown();
        testsStandThere(page);
        finish();
    }

    private static void promisesStandThere(String page) throws IOException {
        if (!Files.exists(PROMISES)) {
            return;
        }
        Matcher promises = PROMISE.matcher(Files.readString(PROMISES));
        int found = 0;
        while (promises.find()) {
            found++;
            String want = "\n" + promises.group(1) + ". `" + promises.group(2) + "`: ";
            due("README.md names promise " + promises.group(1), page.contains(want), true);
        }
        due("promises in the document", found, 30);
    }

    private static void helpersAreAsInBench(String block) throws IOException {
        String bench = Files.readString(TESTS.resolve("Bench.java")).replaceAll("\n +", "\n");
        for (String part : block.split("\n\n")) {
            due("Bench has " + part, bench.contains(part.replaceAll("\n +", "\n").strip()), true);
        }
    }

    private static void example(String[] lines) throws ReflectiveOperationException {
        HomesickStamps x = new HomesickStamps();
        for (int i = 1; i < lines.length; i++) {
            Matcher fed = FED.matcher(lines[i]);
            Matcher asked = ASKED.matcher(lines[i]);
            if (fed.matches()) {
                bytes(x, numbers(fed.group(1)));
            } else if (asked.matches()) {
                due(lines[i], answer(x, asked.group(1), asked.group(2)).equals(asked.group(3)), true);
            } else {
                due("can be read: " + lines[i], false, true);
            }
        }
    }

    private static String answer(HomesickStamps x, String name, String told) throws ReflectiveOperationException {
        Matcher text = TEXT.matcher(told);
        int[] given = text.matches() ? new int[] {text(x, text.group(1))} : numbers(told);
        Class<?>[] types = new Class<?>[given.length];
        Object[] values = new Object[given.length];
        for (int i = 0; i < given.length; i++) {
            types[i] = int.class;
            values[i] = given[i];
        }
        shown.add(name);
        return String.valueOf(HomesickStamps.class.getMethod(name, types).invoke(x, values));
    }

    private static int[] numbers(String told) {
        if (told.isEmpty()) {
            return new int[0];
        }
        String[] parts = told.split(", ");
        int[] all = new int[parts.length];
        for (int i = 0; i < parts.length; i++) {
            all[i] = Integer.decode(parts[i]);
        }
        return all;
    }

    private static void eachCallIsShown() {
        for (Method method : HomesickStamps.class.getDeclaredMethods()) {
            if (Modifier.isPublic(method.getModifiers())) {
                due("an example of " + method.getName(), shown.contains(method.getName()), true);
            }
        }
    }

    private static void testsStandThere(String page) throws IOException {
        due("README.md names .ci/run", page.contains(".ci/run"), true);
        List<Path> files = new ArrayList<>();
        try (var all = Files.list(TESTS)) {
            all.forEach(files::add);
        }
        for (Path file : files) {
            String name = file.getFileName().toString().replace(".java", "");
            due("README.md names " + name, page.contains("`" + name + "`"), true);
        }
    }
}
