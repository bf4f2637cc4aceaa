import java.util.NoSuchElementException;
import java.util.Random;

/** Long runs of calls, the same on the class and on the reference: all answers must be alike. */
public final class ReferenceTest {
    private final Random dice;
    private final UnsoldPrice x = new UnsoldPrice();
    private final Reference y = new Reference();
    private final String run;

    private ReferenceTest(int number) {
        dice = new Random(number);
        run = "run " + number + ": ";
    }

    public static void main(String[] args) {
        int runs = args.length > 0 ? Integer.parseInt(args[0]) : 300;
        for (int k = 0; k < runs; k++) {
            ReferenceTest test = new ReferenceTest(k);
            test.texts();
            for (int call = 0; call < 120; call++) {
                test.oneCall();
            }
            test.lookAtAll();
        }
        Check.finish();
    }

    private int below(int n) {
        return dice.nextInt(n);
    }

    private int near(int low, int high) {
        return low - 1 + below(high - low + 3);
    }

    private void feed(String text) {
        for (int at = 0; at < text.length(); at += 20) {
            int[] w = new int[5];
            for (int k = 0; k < 5; k++) {
                w[k] = Check.word(text, at + 4 * k);
            }
            due("feed", x.feed(w[0], w[1], w[2], w[3], w[4]), y.feed(w[0], w[1], w[2], w[3], w[4]));
        }
    }

    private void due(String call, int got, int want) {
        Check.due(run + call, got, want);
    }

    private void due(String call, boolean got, boolean want) {
        Check.due(run + call, got, want);
    }

    private void tell(int sort, String text) {
        due("end(0)", x.end(0), y.end(0));
        feed(text);
        due("fault(" + sort + ") of " + text, x.fault(sort), y.fault(sort));
        due("text(" + sort + ") of " + text, x.text(sort), y.text(sort));
    }

    private void texts() {
        RandomTexts texts = new RandomTexts(dice);
        tell(0, texts.market());
        int rules = below(4);
        for (int k = 0; k < rules; k++) {
            tell(1, texts.rule());
            int sellers = x.count(0);
            for (int s = 0; s < sellers; s++) {
                if (below(2) == 0) {
                    due("rule", x.rule(s, k), y.rule(s, k));
                }
            }
        }
    }

    private void oneCall() {
        int kind = below(34);
        if (kind < 12) {
            change(kind);
        } else {
            question(kind - 12);
        }
    }

    private void change(int kind) {
        int a = near(0, 4);
        int b = near(-1, 4);
        switch (kind) {
            case 0:
            case 1:
                due("rule(" + a + ", " + b + ")", x.rule(a, b), y.rule(a, b));
                break;
            case 2:
                boolean is = below(3) == 0;
                due("hold(" + a + ", " + is + ")", x.hold(a, is), y.hold(a, is));
                break;
            case 3:
                int v = near(0, 100);
                due("risk(" + v + ")", x.risk(v), y.risk(v));
                break;
            case 4:
                long seed = dice.nextLong();
                due("seed", x.seed(seed), y.seed(seed));
                break;
            case 5:
                int n = below(4) == 0 ? near(0, 30) : near(1, 4);
                due("days(" + n + ")", x.days(n), y.days(n));
                break;
            case 6:
                int days = near(1, 30);
                int board = below(3) == 0 ? near(0, 20) : x.ahead(days);
                due("see(" + days + ", " + board + ")", x.see(days, board), y.see(days, board));
                break;
            case 7:
            case 8:
                int day = below(3) == 0 ? near(0, 29) : near(0, 5);
                int ask = near(0, 20);
                due("ask", x.ask(a, day, ask), y.ask(a, day, ask));
                break;
            case 9:
                due("image()", x.image(), y.image());
                break;
            case 10:
                due("back()", x.back(), y.back());
                break;
            default:
                texts2();
                break;
        }
    }

    private void texts2() {
        RandomTexts texts = new RandomTexts(dice);
        int kind = below(8);
        if (kind == 0) {
            tell(0, texts.market());
        } else if (kind < 3) {
            tell(1, texts.rule());
        } else if (kind < 5) {
            int sort = below(2);
            tell(sort, texts.broken(sort == 0 ? texts.market() : texts.rule()));
        } else {
            int n = near(0, 160);
            due("end(" + n + ")", x.end(n), y.end(n));
            feed(texts.rule());
            due("fault(-1)", x.fault(-1), y.fault(-1));
            due("text(2)", x.text(2), y.text(2));
        }
    }

    private void question(int kind) {
        int n = below(5) == 0 ? near(1, 30) : near(1, 6);
        int s = near(0, 4);
        int what = near(0, 2);
        String n1 = "(" + n + ", " + what + ")";
        switch (kind) {
            case 0:
                due("ahead(" + n + ")", x.ahead(n), y.ahead(n));
                break;
            case 1:
                due("falls" + n1, x.falls(n, what), y.falls(n, what));
                break;
            case 2:
                due("ring(" + what + ")", x.ring(what), y.ring(what));
                break;
            case 3:
                int few = below(12) == 0 ? 3 : near(1, 1);
                due("best(" + s + ", " + few + ", " + what + ")", x.best(s, few, what),
                        y.best(s, few, what));
                break;
            case 4:
                rest();
                break;
            case 5:
                due("fool(" + s + ", " + n + ", " + what + ")", x.fool(s, n, what),
                        y.fool(s, n, what));
                break;
            case 6:
                int price = near(0, 20);
                due("up(" + n + ", " + price + ")", x.up(n, price), y.up(n, price));
                break;
            case 7:
                due("when" + n1, x.when(n, what), y.when(n, what));
                break;
            case 8:
                int goods = below(2) == 0 ? near(1, 99) : near(1, 6);
                int ask = near(0, 20);
                due("stranger(" + goods + ", " + ask + ", " + what + ")",
                        x.stranger(goods, ask, what), y.stranger(goods, ask, what));
                break;
            case 9:
                int i = near(-1, 32);
                due("fits(" + i + ")", x.fits(i), y.fits(i));
                break;
            case 10:
                int law = near(0, 2);
                due("other(" + law + ", " + n + ", " + what + ")", x.other(law, n, what),
                        y.other(law, n, what));
                break;
            case 11:
                due("month" + n1, x.month(n, what), y.month(n, what));
                break;
            case 12:
                due("inTurn" + n1, x.inTurn(n, what), y.inTurn(n, what));
                break;
            case 13:
                due("bribe" + n1, x.bribe(n, what), y.bribe(n, what));
                break;
            case 14:
                due("spread" + n1, x.spread(n, what), y.spread(n, what));
                break;
            case 15:
                due("served(" + s + ", " + n + ", " + what + ")", x.served(s, n, what),
                        y.served(s, n, what));
                break;
            case 16:
                int days = below(15) == 0 ? near(8, 10) : near(1, 4);
                int least = near(0, 20);
                due("odds(" + days + ", " + least + ")", x.odds(days, least), y.odds(days, least));
                break;
            case 17:
                due("lone(" + s + ", " + what + ")", x.lone(s, what), y.lone(s, what));
                break;
            case 18:
                due("glut" + n1, x.glut(n, what), y.glut(n, what));
                break;
            default:
                lookAtAll();
                break;
        }
    }

    /** The reference tries all rows of whole markets: three sellers only below a low board. */
    private void rest() {
        if (x.count(0) == 3 && (x.count(5) > 6 || below(3) > 0)) {
            return;
        }
        int i = below(3) == 0 ? -1 : near(-1, 12);
        due("rest(" + i + ")", x.rest(i), y.rest(i));
    }

    private void lookAtAll() {
        for (int what = -1; what <= 11; what++) {
            due("count(" + what + ")", x.count(what), y.count(what));
        }
        for (int s = -1; s <= 5; s++) {
            for (int what = -1; what <= 10; what++) {
                due("seller(" + s + ", " + what + ")", seller(true, s, what),
                        seller(false, s, what));
            }
        }
        for (int s = -1; s <= 6; s++) {
            for (int what = -1; what <= 4; what++) {
                due("buyers(" + s + ", " + what + ")", x.buyers(s, what), y.buyers(s, what));
            }
        }
    }

    private int seller(boolean ofClass, int s, int what) {
        try {
            return ofClass ? x.seller(s, what) : y.seller(s, what);
        } catch (NoSuchElementException e) {
            return Integer.MIN_VALUE;
        }
    }
}
