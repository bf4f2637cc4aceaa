import java.io.IOException;
import java.nio.charset.StandardCharsets;
import java.nio.file.Files;
import java.nio.file.Path;
import java.util.List;
import java.util.Map;
import java.util.Set;
import java.util.TreeMap;
import java.util.TreeSet;
import java.util.regex.Matcher;
import java.util.regex.Pattern;

/** What can be seen of LANGUAGE.md in the source itself; run from the project's folder. */
public final class LanguageTest {
    private static final Path SOURCE = Path.of("src/main/java/UnsoldPrice.java");
    /** Words and signs that LANGUAGE.md leaves out, or that the class has no need of. */
    private static final List<String> LEFT_OUT = List.of("->", "::", "\\bfinally\\b", "\\bassert\\b",
            "\\bsynchronized\\b", "\\bcatch\\b", "\\btry\\b", "\\btransient\\b", "\\bvolatile\\b",
            "\\bnative\\b", "\\bstrictfp\\b", "\\bpackage\\b", "\\bprotected\\b", "\\bvar\\b",
            "\\bObject\\b", "\\bThread\\b", "\\bString\\.", "\\bInteger\\.(?!bitCount\\b)",
            "\\bMath\\.(?!max\\b|min\\b)", "\\bSystem\\.(?!arraycopy\\b)", "\\bstatic \\{",
            "\\bdouble\\b", "\\bfloat\\b", "\"[^\"]*\" \\+", "\\+ \"");

    private static final Map<String, Set<String>> CALLS = new TreeMap<>();

    private LanguageTest() {
    }

    public static void main(String[] args) throws IOException {
        String source = Files.readString(SOURCE, StandardCharsets.UTF_8);
        String code = source.replaceAll("(?s)/\\*.*?\\*/", "").replaceAll("//[^\n]*", "");
        for (String sign : LEFT_OUT) {
            Matcher m = Pattern.compile(sign).matcher(code);
            Check.due("the source has " + sign, m.find(), false);
        }
        Check.due("signs above 126", source.matches("(?s).*[^\\n -~].*"), false);
        Matcher imports = Pattern.compile("import ([^;]*);").matcher(code);
        while (imports.find()) {
            Check.due("import " + imports.group(1),
                    imports.group(1).equals("java.util.NoSuchElementException"), true);
        }
        Matcher thrown = Pattern.compile("throw new (\\w+)").matcher(code);
        while (thrown.find()) {
            Check.due("throws " + thrown.group(1),
                    thrown.group(1).equals("NoSuchElementException"), true);
        }
        Matcher loops = Pattern.compile("\\b(while|do)\\b").matcher(code);
        Check.due("loops without a counter", loops.find(), false);
        methods(source.split("\n"));
        callsWithinOneAnother();
        Check.finish();
    }

    /** Lines of a method: from its head to the brace that stands as deep. */
    private static void methods(String[] lines) {
        Pattern head = Pattern.compile("^( {4}| {8})[a-zA-Z].*\\) (throws \\w+ )?\\{$");
        for (int k = 0; k < lines.length; k++) {
            Matcher m = head.matcher(lines[k]);
            if (!m.matches() || lines[k].trim().matches("(if|for|switch|\\}).*")) {
                continue;
            }
            int end = k;
            while (end < lines.length && !lines[end].equals(m.group(1) + "}")) {
                end++;
            }
            Check.due("lines of" + lines[k], end - k + 1 <= 60, true);
            calls(m.group(0), String.join("\n", List.of(lines).subList(k + 1, end)));
        }
    }

    /** Keeps by its name what a method's body calls (methods of one name count as one). */
    private static void calls(String head, String body) {
        Matcher name = Pattern.compile("(\\w+)\\(").matcher(head);
        if (!name.find()) {
            return;
        }
        Set<String> called = CALLS.computeIfAbsent(name.group(1), k -> new TreeSet<>());
        Matcher call = Pattern.compile("(?<!new )\\b(\\w+)\\(").matcher(body);
        while (call.find()) {
            called.add(call.group(1));
        }
    }

    /** Calls that are no recursion go at most eight deep; which methods are recursive is known. */
    private static void callsWithinOneAnother() {
        Set<String> recursive = new TreeSet<>();
        for (String name : CALLS.keySet()) {
            Set<String> reached = new TreeSet<>();
            for (String called : CALLS.get(name)) {
                // Methods of one name in two classes call one another: that is no recursion.
                if (!called.equals(name) || List.of("tryAskings", "split", "unit").contains(name)) {
                    reach(called, reached);
                }
            }
            if (reached.contains(name)) {
                recursive.add(name);
            }
        }
        Check.due("recursive: " + recursive, recursive.equals(
                Set.of("condition", "unit", "sum", "atom", "tryAskings", "split")), true);
        for (String name : CALLS.keySet()) {
            Check.due("calls from " + name + " on", deepest(name, recursive, new TreeSet<>()) <= 8, true);
        }
    }

    private static void reach(String name, Set<String> reached) {
        if (CALLS.containsKey(name) && reached.add(name)) {
            for (String called : CALLS.get(name)) {
                if (!called.equals(name)) {
                    reach(called, reached);
                }
            }
        }
    }

    private static int deepest(String name, Set<String> recursive, Set<String> open) {
        if (!CALLS.containsKey(name) || !open.add(name)) {
            return 0;
        }
        int deepest = 0;
        for (String called : CALLS.get(name)) {
            deepest = Math.max(deepest, deepest(called, recursive, open));
        }
        open.remove(name);
        return deepest + (recursive.contains(name) ? 0 : 1);
    }
}
