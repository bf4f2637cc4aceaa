import java.io.IOException;
import java.lang.reflect.Method;
import java.lang.reflect.Modifier;
import java.nio.charset.StandardCharsets;
import java.nio.file.Files;
import java.nio.file.Path;
import java.util.List;
import java.util.regex.Matcher;
import java.util.regex.Pattern;
import java.util.stream.Collectors;
import java.util.stream.Stream;

/** What README.md says holds: its example's answers, each call and each test named. */
public final class ReadmeTest {
    private static final Path README = Path.of("README.md");
    private static final Path TESTS = Path.of("src/test/java");

    private ReadmeTest() {
    }

    public static void main(String[] args) throws IOException, ReflectiveOperationException {
        String page = Files.readString(README, StandardCharsets.UTF_8);
        example(page);
        for (Method m : UnsoldPrice.class.getDeclaredMethods()) {
            if (Modifier.isPublic(m.getModifiers())) {
                Check.due("README names " + m.getName(), page.contains("`" + m.getName() + "`"), true);
            }
        }
        for (String test : tests()) {
            Check.due("README names " + test, page.contains("`" + test + "`"), true);
        }
        Check.finish();
    }

    private static List<String> tests() throws IOException {
        try (Stream<Path> files = Files.list(TESTS)) {
            return files.map(file -> file.getFileName().toString())
                    .filter(name -> name.endsWith("Test.java"))
                    .map(name -> name.substring(0, name.length() - ".java".length()))
                    .collect(Collectors.toList());
        }
    }

    /** Each line of the example is called; a number behind it is its answer. */
    private static void example(String page) throws ReflectiveOperationException {
        UnsoldPrice x = new UnsoldPrice();
        Matcher line = Pattern.compile("(?m)^x\\.(\\w+)\\(([^)]*)\\); *// (.*)$").matcher(page);
        int lines = 0;
        while (line.find()) {
            lines++;
            Object got = call(x, line.group(1), line.group(2));
            Matcher want = Pattern.compile("^-?[0-9]+").matcher(line.group(3));
            if (got instanceof Boolean) {
                Check.due(line.group(), (Boolean) got, true);
            } else if (want.find()) {
                Check.due(line.group(), (Integer) got, Integer.parseInt(want.group()));
            } else {
                Check.due("an answer stands behind " + line.group(), false, true);
            }
        }
        Check.due("lines of the example", lines >= 5, true);
    }

    private static Object call(UnsoldPrice x, String name, String list)
            throws ReflectiveOperationException {
        String[] words = list.isEmpty() ? new String[0] : list.split(", *");
        Class<?>[] kinds = new Class<?>[words.length];
        Object[] numbers = new Object[words.length];
        for (int k = 0; k < words.length; k++) {
            kinds[k] = int.class;
            numbers[k] = Integer.valueOf(words[k]);
        }
        return UnsoldPrice.class.getMethod(name, kinds).invoke(x, numbers);
    }
}
