import java.util.regex.Matcher;
import java.util.regex.Pattern;

/** The fault of a market: the first byte with which the text so far is the beginning of none. */
final class MarketFault {
    private static final String[] KINDS = {"s", "b", "l"};
    private static final String[] ITEMS = {"ncr", "vmw", "qf"};
    private static final int[] MOST = {5, 6, 1};
    private static final String LETTERS = "ncrvmwqf";
    private static final int[] LOW = {0, 0, 0, 0, 1, 0, 0, 0};
    private static final int[] HIGH = {9, 20, 9, 20, 9, 3, 2, 20};

    private MarketFault() {
    }

    static int of(String text) {
        for (int k = 1; k <= text.length(); k++) {
            if (!mayGoOn(text, k)) {
                return k - 1;
            }
        }
        int[] clauses = new int[3];
        for (String clause : text.split(";", -1)) {
            for (int kind = 0; kind < 3; kind++) {
                if (clause.matches(whole(kind))) {
                    clauses[kind]++;
                    break;
                }
                if (kind == 2) {
                    return text.length();
                }
            }
        }
        return clauses[0] > 0 && clauses[1] > 0 ? -1 : text.length();
    }

    private static String whole(int kind) {
        return " *" + KINDS[kind] + "( *[" + ITEMS[kind] + "] *[0-9][0-9]?)* *";
    }

    private static boolean mayGoOn(String text, int end) {
        int[] clauses = new int[3];
        int from = 0;
        String[] parts = text.substring(0, end).split(";", -1);
        for (int p = 0; p < parts.length; p++) {
            boolean last = p == parts.length - 1;
            int kind = 0;
            while (kind < 3 && !parts[p].matches(whole(kind))
                    && !(last && parts[p].matches(whole(kind) + "([" + ITEMS[kind] + "] *)?"))) {
                kind++;
            }
            if (kind == 3) {
                return last && parts[p].matches(" *");
            }
            clauses[kind]++;
            if (clauses[kind] > MOST[kind] || !itemsFine(text, from, parts[p])) {
                return false;
            }
            from += parts[p].length() + 1;
        }
        return true;
    }

    private static boolean itemsFine(String text, int from, String clause) {
        Matcher m = Pattern.compile("([ncrvmwqf]) *([0-9]*)").matcher(clause);
        String seen = "";
        while (m.find()) {
            if (seen.contains(m.group(1))) {
                return false;
            }
            seen += m.group(1);
            int next = from + m.end();
            boolean goesOn = next < text.length() && Character.isDigit(text.charAt(next));
            if (goesOn || m.group(2).isEmpty()) {
                continue;
            }
            int item = LETTERS.indexOf(m.group(1));
            int value = Integer.parseInt(m.group(2));
            if (value < LOW[item] || value > HIGH[item]) {
                return false;
            }
        }
        return true;
    }
}
