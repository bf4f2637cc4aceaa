import java.util.Random;

/** Texts of markets and rules by a dice that is told, so that a run is the same each time. */
final class RandomTexts {
    private static final String SIGNS = "sbl;ncrvmwqf0123456789 y:?|&!()=<>+-*/[]pgcduwx";
    private final Random dice;

    RandomTexts(Random dice) {
        this.dice = dice;
    }

    private int below(int n) {
        return dice.nextInt(n);
    }

    private String blank() {
        return below(12) == 0 ? " " : "";
    }

    String market() {
        int sellers = 1 + below(below(3) == 0 ? 5 : 3);
        int sorts = 1 + below(below(3) == 0 ? 6 : 3);
        boolean law = below(4) > 0;
        StringBuilder text = new StringBuilder();
        while (sellers + sorts > 0 || law) {
            if (text.length() > 0) {
                text.append(';').append(blank());
            }
            int kind = below(3);
            if (kind == 0 && law) {
                law = false;
                text.append('l').append(items("qf", new int[] {0, 0}, new int[] {2, 20}));
            } else if (kind <= 1 && sellers > 0 || sorts == 0 && sellers > 0) {
                sellers--;
                text.append('s').append(items("ncr", new int[] {0, 0, 0}, new int[] {9, 20, 9}));
            } else if (sorts > 0) {
                sorts--;
                text.append('b').append(items("vmw", new int[] {0, 1, 0}, new int[] {20, 9, 3}));
            } else {
                law = false;
                text.append('l').append(items("qf", new int[] {0, 0}, new int[] {2, 20}));
            }
        }
        return text.length() > 160 ? "sn3r2;sn4;bv9w2;lf13" : text.toString();
    }

    private String items(String letters, int[] low, int[] high) {
        StringBuilder text = new StringBuilder();
        int first = below(letters.length());
        for (int k = 0; k < letters.length(); k++) {
            int item = (first + k) % letters.length();
            if (below(4) == 0) {
                continue;
            }
            int value = low[item] + below(high[item] - low[item] + 1);
            text.append(blank()).append(letters.charAt(item)).append(blank());
            text.append(value < 10 && below(10) == 0 ? "0" : "").append(value).append(blank());
        }
        return text.toString();
    }

    String rule() {
        StringBuilder text = new StringBuilder();
        int clauses = 1 + below(3);
        for (int k = 0; k < clauses; k++) {
            text.append(k > 0 ? ";" : "").append(blank()).append('y').append(blank()).append(':');
            if (below(3) > 0) {
                text.append(condition(below(3))).append('?');
            }
            text.append(below(2) == 0 ? "p-" + sum(0) : sum(below(3)));
        }
        return text.length() > 160 ? "y:p>5?p-1;y:p" : text.toString();
    }

    private String condition(int depth) {
        String text = unit(depth);
        int more = below(3) == 0 ? 1 + below(2) : 0;
        for (int k = 0; k < more; k++) {
            text += (below(2) == 0 ? "|" : "&") + blank() + unit(depth);
        }
        return text;
    }

    private String unit(int depth) {
        if (depth > 0 && below(3) == 0) {
            return "!" + blank() + unit(depth - 1);
        }
        if (depth > 0 && below(3) == 0) {
            return "(" + condition(depth - 1) + blank() + ")";
        }
        return sum(depth) + "=<>".charAt(below(3)) + sum(depth);
    }

    private String sum(int depth) {
        String text = atom(depth);
        int more = below(3) == 0 ? 1 + below(3) : 0;
        for (int k = 0; k < more; k++) {
            text += "+-*/".charAt(below(4)) + blank() + atom(depth);
        }
        return text;
    }

    private String atom(int depth) {
        if (depth > 0 && below(3) == 0) {
            return "[" + sum(depth - 1) + "]";
        }
        if (below(2) == 0) {
            return String.valueOf(below(20) == 0 ? below(10000) : below(12)) + blank();
        }
        return "pgcduw".charAt(below(6)) + blank();
    }

    /** A text with a few signs put in, taken away or changed. */
    String broken(String text) {
        StringBuilder b = new StringBuilder(text);
        int times = 1 + below(2);
        for (int k = 0; k < times && b.length() > 0; k++) {
            int at = below(b.length());
            char sign = below(20) == 0 ? (char) (1 + below(255)) : SIGNS.charAt(below(SIGNS.length()));
            switch (below(4)) {
                case 0:
                    b.deleteCharAt(at);
                    break;
                case 1:
                    b.setCharAt(at, sign);
                    break;
                case 2:
                    b.setLength(at);
                    break;
                default:
                    b.insert(at, sign);
                    break;
            }
        }
        return b.length() > 160 ? b.substring(0, 160) : b.toString();
    }
}
