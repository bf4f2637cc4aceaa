import java.io.IOException;
import java.nio.charset.StandardCharsets;
import java.nio.file.Files;
import java.nio.file.Path;
import java.util.List;
import java.util.regex.Matcher;
import java.util.regex.Pattern;

/** What can be seen of LANGUAGE.md in the source itself; run from the project's folder. */
public final class LanguageTest {
    private static final Path SOURCE = Path.of("src/main/java/UnsoldPrice.java");
    /** Words and signs that LANGUAGE.md leaves out, or that the class has no need of. */
    private static final List<String> LEFT_OUT = List.of("->", "::", "\\bfinally\\b", "\\bassert\\b",
            "\\bsynchronized\\b", "\\bcatch\\b", "\\btry\\b", "\\btransient\\b", "\\bvolatile\\b",
            "\\bnative\\b", "\\bstrictfp\\b", "\\bpackage\\b", "\\bprotected\\b", "\\bvar\\b",
            "\\bObject\\b", "\\bThread\\b", "\\bString\\.", "\\bInteger\\.(?!bitCount\\b)",
            "\\bMath\\.(?!max\\b|min\\b)", "\\bSystem\\.(?!arraycopy\\b)", "\\bstatic \\{",
            "\\bdouble\\b", "\\bfloat\\b", "\"[^\"]*\" \\+", "\\+ \"");

    private LanguageTest() {
    }

    public static void main(String[] args) throws IOException {
        String source = Files.readString(SOURCE, StandardCharsets.UTF_8);
        String code = source.replaceAll("(?s)/\\*.*?\\*/", "").replaceAll("//[^\n]*", "");
        for (String sign : LEFT_OUT) {
            Matcher m = Pattern.compile(sign).matcher(code);
            Check.due("the source has " + sign, m.find(), false);
        }
        Check.due("signs above 126", source.matches("(?s).*[^\\n -~].*"), false);
        Matcher imports = Pattern.compile("import ([^;]*);").matcher(code);
        while (imports.find()) {
            Check.due("import " + imports.group(1),
                    imports.group(1).equals("java.util.NoSuchElementException"), true);
        }
        Matcher thrown = Pattern.compile("throw new (\\w+)").matcher(code);
        while (thrown.find()) {
            Check.due("throws " + thrown.group(1),
                    thrown.group(1).equals("NoSuchElementException"), true);
        }
        Matcher loops = Pattern.compile("\\b(while|do)\\b").matcher(code);
        Check.due("loops without a counter", loops.find(), false);
        methods(source.split("\n"));
        Check.finish();
    }

    /** Lines of a method: from its head to the brace that stands as deep. */
    private static void methods(String[] lines) {
        Pattern head = Pattern.compile("^( {4}| {8})[a-zA-Z].*\\) (throws \\w+ )?\\{$");
        for (int k = 0; k < lines.length; k++) {
            Matcher m = head.matcher(lines[k]);
            if (!m.matches() || lines[k].trim().matches("(if|for|switch|\\}).*")) {
                continue;
            }
            int end = k;
            while (end < lines.length && !lines[end].equals(m.group(1) + "}")) {
                end++;
            }
            Check.due("lines of" + lines[k], end - k + 1 <= 60, true);
        }
    }
}
