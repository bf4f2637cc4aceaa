/** Counts answers that are not as due, and feeds texts to a market. */
final class Check {
    private static int wrong = 0;
    private static int looked = 0;

    private Check() {
    }

    static void due(String call, long got, long want) {
        looked++;
        if (got != want) {
            wrong++;
            if (wrong <= 40) {
                System.out.println(call + " answered " + got + ", due is " + want);
            }
        }
    }

    static void due(String call, boolean got, boolean want) {
        due(call, got ? 1 : 0, want ? 1 : 0);
    }

    /** Ends the run: exit code 1 if an answer was wrong, or if nothing was looked at. */
    static void finish() {
        System.out.println(looked + " answers looked at, " + wrong + " wrong");
        if (wrong != 0 || looked == 0) {
            System.exit(1);
        }
    }

    /** Puts a text on the tape, instead of what was there; answers how many bytes it has. */
    static int tape(UnsoldPrice x, String text) {
        x.end(0);
        int has = 0;
        for (int at = 0; at < text.length(); at += 20) {
            has = x.feed(word(text, at), word(text, at + 4), word(text, at + 8), word(text, at + 12),
                    word(text, at + 16));
        }
        return has;
    }

    static int word(String text, int at) {
        int word = 0;
        for (int k = at; k < at + 4; k++) {
            word = word << 8 | (k < text.length() ? text.charAt(k) & 255 : 0);
        }
        return word;
    }

    static int market(UnsoldPrice x, String text) {
        tape(x, text);
        return x.text(0);
    }

    static int rule(UnsoldPrice x, String text) {
        tape(x, text);
        return x.text(1);
    }

    static UnsoldPrice open(String text) {
        UnsoldPrice x = new UnsoldPrice();
        due("text(0) of " + text, market(x, text) > 0, true);
        return x;
    }

    static int fault(UnsoldPrice x, int sort, String text) {
        tape(x, text);
        return x.fault(sort);
    }
}
