import java.util.Map;

/** The worth of a rule without blanks, by cutting its text at its last loose sign. */
final class RuleWorth {
    private RuleWorth() {
    }

    static long of(String rule, Map<Character, Integer> letters) {
        for (String clause : rule.split(";")) {
            String body = clause.substring(2);
            int cut = body.indexOf('?');
            if (cut < 0 || holds(body.substring(0, cut), letters)) {
                return sum(body.substring(cut + 1), letters);
            }
        }
        return 0;
    }

    private static boolean holds(String text, Map<Character, Integer> letters) {
        int cut = lastLoose(text, "|");
        if (cut >= 0) {
            return holds(text.substring(0, cut), letters) || holds(text.substring(cut + 1), letters);
        }
        cut = lastLoose(text, "&");
        if (cut >= 0) {
            return holds(text.substring(0, cut), letters) && holds(text.substring(cut + 1), letters);
        }
        if (text.charAt(0) == '!') {
            return !holds(text.substring(1), letters);
        }
        if (text.charAt(0) == '(') {
            return holds(text.substring(1, text.length() - 1), letters);
        }
        cut = lastLoose(text, "=<>");
        long a = sum(text.substring(0, cut), letters);
        long b = sum(text.substring(cut + 1), letters);
        return text.charAt(cut) == '=' ? a == b : text.charAt(cut) == '<' ? a < b : a > b;
    }

    private static long sum(String text, Map<Character, Integer> letters) {
        int cut = lastLoose(text, "+-");
        if (cut < 0) {
            cut = lastLoose(text, "*/");
        }
        if (cut >= 0) {
            long a = sum(text.substring(0, cut), letters);
            long b = sum(text.substring(cut + 1), letters);
            char sign = text.charAt(cut);
            long v = sign == '+' ? a + b : sign == '-' ? a - b : sign == '*' ? a * b : b == 0 ? 0 : a / b;
            return Math.max(-1000000, Math.min(1000000, v));
        }
        if (text.charAt(0) == '[') {
            return sum(text.substring(1, text.length() - 1), letters);
        }
        return Character.isDigit(text.charAt(0)) ? Long.parseLong(text) : letters.get(text.charAt(0));
    }

    /** The last place of one of the signs that stands in no brackets. */
    private static int lastLoose(String text, String signs) {
        int depth = 0;
        for (int k = text.length() - 1; k >= 0; k--) {
            char c = text.charAt(k);
            if (c == ')' || c == ']') {
                depth++;
            } else if (c == '(' || c == '[') {
                depth--;
            } else if (depth == 0 && signs.indexOf(c) >= 0) {
                return k;
            }
        }
        return -1;
    }
}
