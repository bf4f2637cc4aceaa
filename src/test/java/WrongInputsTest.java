import java.util.NoSuchElementException;
import java.util.Random;

/** Arguments far out, in many states: only seller may throw, and nothing that is refused changes. */
public final class WrongInputsTest {
    private static final int[] EDGES = {Integer.MIN_VALUE, -1000001, -100, -2, -1, 0, 1, 2, 3, 4, 5,
        6, 9, 10, 11, 19, 20, 21, 29, 30, 31, 32, 59, 60, 61, 99, 100, 160, 161, 9260, 9261,
        1 << 24, 1 << 30, Integer.MAX_VALUE - 1, Integer.MAX_VALUE};
    private final Random dice;
    private final UnsoldPrice x = new UnsoldPrice();

    private WrongInputsTest(int number) {
        dice = new Random(1000 + number);
    }

    public static void main(String[] args) {
        for (int k = 0; k < 120; k++) {
            WrongInputsTest test = new WrongInputsTest(k);
            for (int call = 0; call < 500; call++) {
                test.look();
            }
        }
        Check.finish();
    }

    private int edge() {
        return EDGES[dice.nextInt(EDGES.length)];
    }

    private void look() {
        int kind = dice.nextInt(40);
        try {
            if (kind < 12) {
                change(kind);
            } else {
                question(kind);
            }
            Check.due("no exception", true, true);
        } catch (RuntimeException e) {
            Check.due("call " + kind + " throws " + e, false, true);
        }
    }

    private void change(int kind) {
        RandomTexts texts = new RandomTexts(dice);
        switch (kind) {
            case 0:
                x.feed(dice.nextInt(), edge(), dice.nextInt(), edge(), dice.nextInt());
                break;
            case 1:
                x.end(edge());
                break;
            case 2:
                Check.market(x, texts.market());
                break;
            case 3:
                Check.rule(x, texts.rule());
                break;
            case 4:
                x.rule(edge(), edge());
                break;
            case 5:
                x.hold(edge(), dice.nextBoolean());
                break;
            case 6:
                x.risk(edge());
                break;
            case 7:
                x.seed(dice.nextLong());
                break;
            case 8:
                x.days(edge());
                break;
            case 9:
                x.see(edge(), edge());
                break;
            case 10:
                x.ask(edge(), edge(), edge());
                break;
            default:
                x.image();
                x.text(edge());
                x.back();
                break;
        }
    }

    private void question(int kind) {
        int a = edge();
        int b = edge();
        int c = dice.nextInt(4) == 0 ? edge() : dice.nextInt(3);
        switch (kind) {
            case 12: seller(a, b); break;
            case 13: x.buyers(a, b); break;
            case 14: x.fault(a); break;
            case 15: x.ahead(a); break;
            case 16: x.falls(a, c); break;
            case 17: x.ring(c); break;
            case 18: x.best(dice.nextInt(6) - 1, dice.nextInt(3) == 0 ? b : 1, c); break;
            case 19: x.rest(a); break;
            case 20: x.fool(dice.nextInt(6) - 1, b, c); break;
            case 21: x.up(a, b); break;
            case 22: x.when(a, c); break;
            case 23: x.stranger(a, b, c); break;
            case 24: x.fits(a); break;
            case 25: x.other(a, b, c); break;
            case 26: x.month(a, c); break;
            case 27: x.inTurn(a, c); break;
            case 28: x.bribe(a, c); break;
            case 29: x.spread(a, c); break;
            case 30: x.served(a, b, c); break;
            case 31: x.odds(a, b); break;
            case 32: x.lone(a, c); break;
            case 33: x.glut(a, c); break;
            default: x.count(a); break;
        }
    }

    private void seller(int seller, int what) {
        try {
            x.seller(seller, what);
        } catch (NoSuchElementException e) {
            boolean none = seller < 0 || seller >= x.count(0) || what < 0 || what > 9;
            Check.due("seller(" + seller + ", " + what + ") throws", none, true);
        }
    }
}
