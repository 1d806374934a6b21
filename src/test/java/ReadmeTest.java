import java.io.IOException;
import java.lang.reflect.Method;
import java.lang.reflect.Modifier;
import java.nio.file.Files;
import java.nio.file.Path;
import java.util.ArrayList;
import java.util.List;
import java.util.regex.Matcher;
import java.util.regex.Pattern;
import java.util.stream.Stream;

/** README.md: its examples answer what stands behind them, and it names every call and every test. */
public final class ReadmeTest {
    private static final Pattern BLOCK = Pattern.compile("```java\n(.*?)```", Pattern.DOTALL);
    private static final Pattern TOLD = Pattern.compile("for \\(char letter : \"([^\"]*)\"");
    private static final Pattern CALL = Pattern.compile("q\\.(\\w+)\\(([-0-9, ]*)\\);\\s*// (-?\\d+): .*");

    public static void main(String[] args) throws IOException, ReflectiveOperationException {
        Path root = Path.of(args.length > 0 ? args[0] : ".");
        String page = Files.readString(root.resolve("README.md"));
        examples(page);
        namesEveryCall(page);
        namesEveryTest(page, root.resolve("src/test/java"));
        Check.end();
    }

    /** One object for all blocks, as the page reads. */
    private static void examples(String page) throws ReflectiveOperationException {
        QuadKeys q = new QuadKeys();
        int looked = 0;
        Matcher block = BLOCK.matcher(page);
        while (block.find()) {
            for (String line : block.group(1).split("\n")) {
                looked += follow(q, line.strip());
            }
        }
        Check.due("examples were found", looked >= 20 ? 1 : 0, 1);
    }

    private static int follow(QuadKeys q, String line) throws ReflectiveOperationException {
        Matcher told = TOLD.matcher(line);
        if (told.find()) {
            told.group(1).chars().forEach(q::write);
            return 0;
        }
        Matcher call = CALL.matcher(line);
        if (call.matches()) {
            Check.due(line, answer(q, call.group(1), call.group(2)), Long.parseLong(call.group(3)));
            return 1;
        }
        boolean known = line.equals("}") || line.startsWith("q.write(letter);")
                || line.startsWith("QuadKeys q = new QuadKeys();");
        Check.due("is followed: " + line, known ? 1 : 0, 1);
        return 0;
    }

    private static int answer(QuadKeys q, String name, String list) throws ReflectiveOperationException {
        List<Object> numbers = new ArrayList<>();
        for (String number : list.isBlank() ? new String[0] : list.split(",")) {
            numbers.add(Integer.valueOf(number.strip()));
        }
        for (Method method : QuadKeys.class.getDeclaredMethods()) {
            if (method.getName().equals(name) && method.getParameterCount() == numbers.size()) {
                return (Integer) method.invoke(q, numbers.toArray());
            }
        }
        throw new NoSuchMethodException(name);
    }

    private static void namesEveryCall(String page) {
        for (Method method : QuadKeys.class.getDeclaredMethods()) {
            if (Modifier.isPublic(method.getModifiers())) {
                Check.due("names " + method.getName(), page.contains("`" + method.getName() + "`") ? 1 : 0, 1);
            }
        }
    }

    private static void namesEveryTest(String page, Path tests) throws IOException {
        try (Stream<Path> files = Files.list(tests)) {
            for (Path file : files.toList()) {
                String name = file.getFileName().toString().replace(".java", "");
                boolean named = !name.endsWith("Test") || page.contains("| `" + name + "` |");
                Check.due("names " + name, named ? 1 : 0, 1);
            }
        }
    }
}
