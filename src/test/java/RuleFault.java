import java.util.ArrayDeque;
import java.util.ArrayList;
import java.util.Deque;
import java.util.LinkedHashSet;
import java.util.List;
import java.util.Set;

/**
 * The fault of a rule by its grammar alone: all that may still come is kept as a set of rows of
 * symbols; the first byte that no row can take is the fault.
 */
final class RuleFault {
    private static final String DIGITS = "0123456789";

    private RuleFault() {
    }

    static int of(String text) {
        Set<List<String>> rows = new LinkedHashSet<>();
        rows.add(List.of("rule"));
        for (int k = 0; k < text.length(); k++) {
            rows = behind(rows, text.charAt(k));
            if (rows.isEmpty()) {
                return k;
            }
        }
        for (List<String> row : open(rows)) {
            if (row.isEmpty()) {
                return -1;
            }
        }
        return text.length();
    }

    private static Set<List<String>> behind(Set<List<String>> rows, char c) {
        Set<List<String>> next = new LinkedHashSet<>();
        if (c == ' ') {
            for (List<String> row : rows) {
                // A number ends at a blank.
                boolean inNumber = !row.isEmpty() && row.get(0).startsWith("more");
                next.add(inNumber ? row.subList(1, row.size()) : row);
            }
            return next;
        }
        for (List<String> row : open(rows)) {
            if (!row.isEmpty() && takes(row.get(0), c)) {
                next.add(row.subList(1, row.size()));
            }
        }
        return next;
    }

    private static boolean takes(String symbol, char c) {
        return symbol.equals("digit") ? DIGITS.indexOf(c) >= 0 : symbol.charAt(0) == c;
    }

    /** All rows that begin with a sign (or are at their end), the ways of all names tried. */
    private static Set<List<String>> open(Set<List<String>> rows) {
        Set<List<String>> opened = new LinkedHashSet<>();
        Deque<List<String>> todo = new ArrayDeque<>(rows);
        while (!todo.isEmpty()) {
            List<String> row = todo.poll();
            if (row.isEmpty() || row.get(0).length() == 1 || row.get(0).equals("digit")) {
                opened.add(row);
                continue;
            }
            for (List<String> way : ways(row.get(0))) {
                List<String> longer = new ArrayList<>(way);
                longer.addAll(row.subList(1, row.size()));
                todo.add(longer);
            }
        }
        return opened;
    }

    private static List<List<String>> ways(String name) {
        int at = name.indexOf('.');
        int depth = at < 0 ? 0 : Integer.parseInt(name.substring(at + 1));
        String d = "." + depth;
        String deeper = "." + (depth + 1);
        List<List<String>> ways = new ArrayList<>();
        switch (at < 0 ? name : name.substring(0, at)) {
            case "rule":
                ways.add(List.of("clause", "rules"));
                break;
            case "rules":
                ways.add(List.of());
                ways.add(List.of(";", "clause", "rules"));
                break;
            case "clause":
                ways.add(List.of("y", ":", "sum.0"));
                ways.add(List.of("y", ":", "condition.0", "?", "sum.0"));
                break;
            case "condition":
                ways.add(List.of("truth" + d));
                ways.add(List.of("truth" + d, "|", "condition" + d));
                break;
            case "truth":
                ways.add(List.of("unit" + d));
                ways.add(List.of("unit" + d, "&", "truth" + d));
                break;
            case "unit":
                for (String sign : List.of("=", "<", ">")) {
                    ways.add(List.of("sum" + d, sign, "sum" + d));
                }
                if (depth < 6) {
                    ways.add(List.of("!", "unit" + deeper));
                    ways.add(List.of("(", "condition" + deeper, ")"));
                }
                break;
            case "sum":
                ways.add(List.of("term" + d, "sums" + d));
                break;
            case "sums":
                ways.add(List.of());
                ways.add(List.of("+", "term" + d, "sums" + d));
                ways.add(List.of("-", "term" + d, "sums" + d));
                break;
            case "term":
                ways.add(List.of("atom" + d, "terms" + d));
                break;
            case "terms":
                ways.add(List.of());
                ways.add(List.of("*", "atom" + d, "terms" + d));
                ways.add(List.of("/", "atom" + d, "terms" + d));
                break;
            case "atom":
                for (String letter : List.of("p", "g", "c", "d", "u", "w")) {
                    ways.add(List.of(letter));
                }
                ways.add(List.of("digit", "more.3"));
                if (depth < 6) {
                    ways.add(List.of("[", "sum" + deeper, "]"));
                }
                break;
            case "more":
                ways.add(List.of());
                if (depth > 0) {
                    ways.add(List.of("digit", "more." + (depth - 1)));
                }
                break;
            default:
                throw new IllegalStateException(name);
        }
        return ways;
    }
}
