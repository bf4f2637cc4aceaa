import java.util.ArrayList;
import java.util.List;
import java.util.NoSuchElementException;

/**
 * Each argument of each call, from far below what is allowed to far above it: within, the answer is
 * the reference's; outside, the call is refused as the document tells, and behind it all that can be
 * asked of the object (and all that it goes on to do) is as if the call had never been.
 */
public final class RefusedTest {
    private static final int NONE = UnsoldPrice.NONE;
    private static final int HIDDEN = UnsoldPrice.HIDDEN;
    /** Stands for NoSuchElementException, and for false. */
    private static final int THROWN = Integer.MIN_VALUE;
    private static final int FALSE = 0;

    private interface OfClass {
        int ask(UnsoldPrice x, int v);
    }

    private interface OfReference {
        int ask(Reference y, int v);
    }

    /** How an object is made before the call that is looked at; the same on both. */
    private interface State {
        void set(Both both);
    }

    /** An object of the class and one of the reference that get the same calls. */
    private static final class Both {
        final UnsoldPrice x = new UnsoldPrice();
        final Reference y = new Reference();

        void tape(String text) {
            x.end(0);
            y.end(0);
            feed(text);
        }

        void feed(String text) {
            for (int at = 0; at < text.length(); at += 20) {
                int[] w = new int[5];
                for (int k = 0; k < 5; k++) {
                    w[k] = Check.word(text, at + 4 * k);
                }
                x.feed(w[0], w[1], w[2], w[3], w[4]);
                y.feed(w[0], w[1], w[2], w[3], w[4]);
            }
        }

        void text(int sort, String text) {
            tape(text);
            Check.due("text of " + text, x.text(sort), y.text(sort));
        }

        void rule(int seller, int rule) {
            Check.due("rule", x.rule(seller, rule), y.rule(seller, rule));
        }

        void hold(int seller) {
            Check.due("hold", x.hold(seller, true), y.hold(seller, true));
        }

        void days(int n) {
            Check.due("days", x.days(n), y.days(n));
        }

        void see(int days, int board) {
            Check.due("see", x.see(days, board), y.see(days, board));
        }

        void ask(int seller, int day, int v) {
            Check.due("ask", x.ask(seller, day, v), y.ask(seller, day, v));
        }

        void risk(int v, long seed) {
            x.risk(v);
            y.risk(v);
            x.seed(seed);
            y.seed(seed);
        }

        void image() {
            Check.due("image", x.image(), y.image());
        }
    }

    private final State state;
    private final String name;
    private final String trace;

    private RefusedTest(String name, State state) {
        this.name = name;
        this.state = state;
        Both both = new Both();
        state.set(both);
        trace = trace(both.x);
    }

    public static void main(String[] args) {
        RefusedTest five = new RefusedTest("five sellers: ", RefusedTest::fiveSellers);
        five.texts();
        five.sellersAndBuyers();
        five.daysAndBoards();
        five.bestAndFool();
        five.whenAndStranger();
        five.seenAndAskings();
        five.turnsAndBribes();
        five.servedOddsLone();
        five.noSuchOnesAtAll();
        RefusedTest three = new RefusedTest("three sellers: ", RefusedTest::threeSellers);
        three.rests();
        new RefusedTest("full: ", RefusedTest::full).fullOnes();
        new RefusedTest("all hold: ", RefusedTest::allHold).allHolding();
        new RefusedTest("no market: ", RefusedTest::noMarket).withoutMarket();
        new RefusedTest("a market's fault: ", both -> faulty(both, 0)).faults();
        new RefusedTest("a rule's fault: ", both -> faulty(both, 1)).faults();
        Check.finish();
    }

    // ---- states ----

    private static void fiveSellers(Both both) {
        both.text(0, "sn3c1r1;sn2c2;sn4c0r2;sn1;sn9r3;bv9m2w2;bv12m3;bv5w3;bv15m1w1;bv3m4;bv20m1;lf14");
        both.text(1, "y:p-1");
        both.text(1, "y:g>4?p-2;y:p");
        both.text(1, "y:w-u");
        both.rule(0, 0);
        both.rule(2, 1);
        both.rule(4, 2);
        both.hold(1);
        both.risk(35, 123456789L);
        both.days(3);
        both.see(2, both.y.ahead(2));
        both.see(4, 14);
        both.ask(0, 1, 9);
        both.ask(3, 2, 20);
        both.image();
        both.days(2);
        both.tape("y:p-3");
    }

    private static void threeSellers(Both both) {
        both.text(0, "sn2;sn1;sn0;bv4m2;bv5m1;lf5");
        both.hold(1);
        both.image();
        both.tape("y:p-3");
    }

    /** All that has a limit has reached it. */
    private static void full(Both both) {
        both.text(0, "sn3;sn2;bv9m2w2;lf14");
        for (int k = 0; k < 5; k++) {
            both.text(1, "y:p-" + k);
        }
        both.rule(0, 4);
        both.risk(20, -5L);
        both.days(1);
        for (int k = 0; k < 20; k++) {
            both.see(1 + k, 14);
        }
        for (int k = 0; k < 60; k++) {
            both.ask(k % 2, k / 2, 5);
        }
        both.image();
        both.tape("y:p-3" + " ".repeat(155));
    }

    private static void allHold(Both both) {
        both.text(0, "sn3;sn2;bv9m2w2;lf14");
        both.text(1, "y:p-1");
        both.hold(0);
        both.hold(1);
        both.risk(20, -5L);
        both.days(2);
        both.tape("y:p-3");
    }

    private static void noMarket(Both both) {
        both.text(1, "y:p-1");
        both.risk(20, -5L);
        both.tape("y:p-3");
    }

    private static void faulty(Both both, int sort) {
        fiveSellers(both);
        both.tape(sort == 0 ? "s;b;lf21" : "y:[p");
    }

    // ---- what is looked at ----

    private static int[] values(int low, int high) {
        List<Integer> all = new ArrayList<>(List.of(Integer.MIN_VALUE, Integer.MIN_VALUE + 1,
                Integer.MIN_VALUE + Math.max(0, low), Integer.MIN_VALUE + Math.max(0, high), -1000000,
                -257, -64, -33, -32, -2, -1, 32, 33, 64, 256, 257, 65536, 1 << 24, 1 << 30,
                Integer.MAX_VALUE - 1, Integer.MAX_VALUE));
        for (int v = low - 2; v <= high + 2; v++) {
            all.add(v);
        }
        all.add(low - 256);
        all.add(high + 256);
        int[] values = new int[all.size()];
        for (int k = 0; k < values.length; k++) {
            values[k] = all.get(k);
        }
        return values;
    }

    /** Looks at all values of one argument; low above high: every one is refused. */
    private void row(String call, int low, int high, int refused, OfClass x, OfReference y) {
        for (int v : values(low, high)) {
            Both both = new Both();
            state.set(both);
            int answer = x.ask(both.x, v);
            String told = name + call + " of " + v;
            if (v >= low && v <= high) {
                Check.due(told, answer, y.ask(both.y, v));
                continue;
            }
            Check.due(told + " is refused", answer, refused);
            Check.due(told + " is refused by the reference", y.ask(both.y, v), refused);
            Check.due(told + " changes nothing", trace(both.x).equals(trace), true);
        }
    }

    private void refused(String call, int refused, OfClass x, OfReference y) {
        row(call, 1, 0, refused, x, y);
    }

    private static int seller(UnsoldPrice x, int seller, int what) {
        try {
            return x.seller(seller, what);
        } catch (NoSuchElementException e) {
            return THROWN;
        }
    }

    private static int seller(Reference y, int seller, int what) {
        try {
            return y.seller(seller, what);
        } catch (NoSuchElementException e) {
            return THROWN;
        }
    }

    private static int one(boolean is) {
        return is ? 1 : 0;
    }

    // ---- rows ----

    private void texts() {
        row("end", 0, 5, FALSE, (x, v) -> one(x.end(v)), (y, v) -> one(y.end(v)));
        row("fault", 0, 1, -2, (x, v) -> x.fault(v), (y, v) -> y.fault(v));
        row("text", 1, 1, NONE, (x, v) -> x.text(v), (y, v) -> y.text(v));
    }

    private void faults() {
        refused("text", NONE, (x, v) -> x.text(v), (y, v) -> y.text(v));
        row("fault", 0, 1, -2, (x, v) -> x.fault(v), (y, v) -> y.fault(v));
    }

    private void sellersAndBuyers() {
        for (int what = 0; what <= 9; what++) {
            int w = what;
            row("seller", 0, 4, THROWN, (x, v) -> seller(x, v, w), (y, v) -> seller(y, v, w));
        }
        row("seller's what", 0, 9, THROWN, (x, v) -> seller(x, 1, v), (y, v) -> seller(y, 1, v));
        for (int what = 0; what <= 3; what++) {
            int w = what;
            row("buyers", 0, 5, NONE, (x, v) -> x.buyers(v, w), (y, v) -> y.buyers(v, w));
        }
        row("buyers' what", 0, 3, NONE, (x, v) -> x.buyers(2, v), (y, v) -> y.buyers(2, v));
        row("rule's seller", 0, 4, FALSE, (x, v) -> one(x.rule(v, 2)), (y, v) -> one(y.rule(v, 2)));
        row("rule none's seller", 0, 4, FALSE, (x, v) -> one(x.rule(v, NONE)),
                (y, v) -> one(y.rule(v, NONE)));
        row("rule", NONE, 2, FALSE, (x, v) -> one(x.rule(0, v)), (y, v) -> one(y.rule(0, v)));
        // The second holds, the others do not; those behind it are one row of numbers.
        row("hold", 2, 4, FALSE, (x, v) -> one(v != 0 && x.hold(v, true)),
                (y, v) -> one(v != 0 && y.hold(v, true)));
        row("hold no more", 1, 1, FALSE, (x, v) -> one(x.hold(v, false)),
                (y, v) -> one(y.hold(v, false)));
        row("risk", 0, 100, FALSE, (x, v) -> one(x.risk(v)), (y, v) -> one(y.risk(v)));
        row("count", 0, 10, HIDDEN, (x, v) -> x.count(v), (y, v) -> y.count(v));
    }

    private void daysAndBoards() {
        row("days", 1, 30, NONE, (x, v) -> x.days(v), (y, v) -> y.days(v));
        row("ahead", 1, 30, NONE, (x, v) -> x.ahead(v), (y, v) -> y.ahead(v));
        row("jumps", 1, 30, NONE, (x, v) -> x.falls(v, 0), (y, v) -> y.falls(v, 0));
        row("fall", 1, 30, NONE, (x, v) -> x.falls(v, 1), (y, v) -> y.falls(v, 1));
        row("falls' what", 0, 1, NONE, (x, v) -> x.falls(5, v), (y, v) -> y.falls(5, v));
        row("ring", 0, 1, NONE, (x, v) -> x.ring(v), (y, v) -> y.ring(v));
        row("spread", 1, 30, NONE, (x, v) -> x.spread(v, 0), (y, v) -> y.spread(v, 0));
        row("sum", 1, 30, NONE, (x, v) -> x.spread(v, 1), (y, v) -> y.spread(v, 1));
        row("spread's what", 0, 1, NONE, (x, v) -> x.spread(5, v), (y, v) -> y.spread(5, v));
        row("glut", 1, 30, NONE, (x, v) -> x.glut(v, 0), (y, v) -> y.glut(v, 0));
        row("glut's seller", 1, 30, NONE, (x, v) -> x.glut(v, 1), (y, v) -> y.glut(v, 1));
        row("glut's what", 0, 1, NONE, (x, v) -> x.glut(5, v), (y, v) -> y.glut(5, v));
        row("up", 1, 30, NONE, (x, v) -> x.up(v, 9), (y, v) -> y.up(v, 9));
        row("up to", 0, 20, NONE, (x, v) -> x.up(3, v), (y, v) -> y.up(3, v));
    }

    private void bestAndFool() {
        row("best", 0, 4, HIDDEN, (x, v) -> x.best(v, 1, 0), (y, v) -> y.best(v, 1, 0));
        row("best gain", 0, 4, HIDDEN, (x, v) -> x.best(v, 1, 1), (y, v) -> y.best(v, 1, 1));
        row("best of days", 1, 3, HIDDEN, (x, v) -> x.best(2, v, 0), (y, v) -> y.best(2, v, 0));
        row("best's what", 0, 1, HIDDEN, (x, v) -> x.best(0, 1, v), (y, v) -> y.best(0, 1, v));
        row("fool", 0, 4, HIDDEN, (x, v) -> x.fool(v, 3, 0), (y, v) -> y.fool(v, 3, 0));
        row("fool's worth", 0, 4, HIDDEN, (x, v) -> x.fool(v, 3, 1), (y, v) -> y.fool(v, 3, 1));
        row("fool for days", 1, 30, HIDDEN, (x, v) -> x.fool(0, v, 0), (y, v) -> y.fool(0, v, 0));
        row("fool's what", 0, 1, HIDDEN, (x, v) -> x.fool(0, 3, v), (y, v) -> y.fool(0, 3, v));
        row("law", 0, 2, HIDDEN, (x, v) -> x.other(v, 4, 0), (y, v) -> y.other(v, 4, 0));
        row("law for days", 1, 30, HIDDEN, (x, v) -> x.other(1, v, 1), (y, v) -> y.other(1, v, 1));
        row("law's what", 0, 2, HIDDEN, (x, v) -> x.other(2, 4, v), (y, v) -> y.other(2, 4, v));
        refused("rest of five", HIDDEN, (x, v) -> x.rest(v), (y, v) -> y.rest(v));
    }

    private void whenAndStranger() {
        row("when", 1, 30, NONE, (x, v) -> x.when(v, 0), (y, v) -> y.when(v, 0));
        row("when: how much", 1, 30, NONE, (x, v) -> x.when(v, 1), (y, v) -> y.when(v, 1));
        row("when's what", 0, 1, NONE, (x, v) -> x.when(3, v), (y, v) -> y.when(3, v));
        for (int what = 0; what <= 2; what++) {
            int w = what;
            row("stranger", 1, 99, HIDDEN, (x, v) -> x.stranger(v, 7, w),
                    (y, v) -> y.stranger(v, 7, w));
            row("stranger asks", 0, 20, HIDDEN, (x, v) -> x.stranger(9, v, w),
                    (y, v) -> y.stranger(9, v, w));
        }
        row("stranger's what", 0, 2, HIDDEN, (x, v) -> x.stranger(9, 7, v),
                (y, v) -> y.stranger(9, 7, v));
    }

    private void seenAndAskings() {
        row("see behind", 1, 30, NONE, (x, v) -> x.see(v, 9), (y, v) -> y.see(v, 9));
        row("see", 0, 20, NONE, (x, v) -> x.see(2, v), (y, v) -> y.see(2, v));
        int found = fits();
        row("fits", NONE, found - 1, NONE, (x, v) -> x.fits(v), (y, v) -> y.fits(v));
        row("ask of", 0, 4, NONE, (x, v) -> x.ask(v, 0, 3), (y, v) -> y.ask(v, 0, 3));
        row("ask on", 0, 29, NONE, (x, v) -> x.ask(0, v, 3), (y, v) -> y.ask(0, v, 3));
        row("ask", 0, 20, NONE, (x, v) -> x.ask(0, 0, v), (y, v) -> y.ask(0, 0, v));
        row("month", 1, 30, NONE, (x, v) -> x.month(v, 0), (y, v) -> y.month(v, 0));
        row("month's seller", 1, 30, NONE, (x, v) -> x.month(v, 1), (y, v) -> y.month(v, 1));
        row("month's what", 0, 1, NONE, (x, v) -> x.month(9, v), (y, v) -> y.month(9, v));
        for (int days = 1; days <= 30; days += 29) {
            int n = days;
            row("see and fits", 0, 20, NONE, (x, v) -> x.see(n, v) == NONE ? NONE : x.fits(NONE),
                    (y, v) -> y.see(n, v) == NONE ? NONE : y.fits(NONE));
        }
    }

    private int fits() {
        Both both = new Both();
        state.set(both);
        return both.y.fits(NONE);
    }

    private void turnsAndBribes() {
        for (int what = 0; what <= 2; what++) {
            int w = what;
            row("in turn", 1, 30, HIDDEN, (x, v) -> x.inTurn(v, w), (y, v) -> y.inTurn(v, w));
        }
        row("in turn's what", 0, 2, HIDDEN, (x, v) -> x.inTurn(7, v), (y, v) -> y.inTurn(7, v));
        row("bribe", 1, 30, HIDDEN, (x, v) -> x.bribe(v, 0), (y, v) -> y.bribe(v, 0));
        row("bribe: how much", 1, 30, HIDDEN, (x, v) -> x.bribe(v, 1), (y, v) -> y.bribe(v, 1));
        row("bribe's what", 0, 1, HIDDEN, (x, v) -> x.bribe(3, v), (y, v) -> y.bribe(3, v));
    }

    private void servedOddsLone() {
        row("served", 0, 5, NONE, (x, v) -> x.served(v, 6, 0), (y, v) -> y.served(v, 6, 0));
        row("without", 0, 5, NONE, (x, v) -> x.served(v, 6, 1), (y, v) -> y.served(v, 6, 1));
        row("served in", 1, 30, NONE, (x, v) -> x.served(2, v, 0), (y, v) -> y.served(2, v, 0));
        row("without in", 1, 30, NONE, (x, v) -> x.served(0, v, 1), (y, v) -> y.served(0, v, 1));
        row("served's what", 0, 1, NONE, (x, v) -> x.served(0, 3, v), (y, v) -> y.served(0, 3, v));
        row("odds in", 1, 10, NONE, (x, v) -> x.odds(v, 9), (y, v) -> y.odds(v, 9));
        row("odds", 0, 20, NONE, (x, v) -> x.odds(3, v), (y, v) -> y.odds(3, v));
        row("lone", 0, 4, NONE, (x, v) -> x.lone(v, 0), (y, v) -> y.lone(v, 0));
        row("lone takes", 0, 4, NONE, (x, v) -> x.lone(v, 1), (y, v) -> y.lone(v, 1));
        row("lone's what", 0, 1, NONE, (x, v) -> x.lone(3, v), (y, v) -> y.lone(3, v));
    }

    /** One argument is wrong: whatever the others are, the call is refused. */
    private void noSuchOnesAtAll() {
        refused("seller 5", THROWN, (x, v) -> seller(x, 5, v), (y, v) -> seller(y, 5, v));
        refused("seller's what 10", THROWN, (x, v) -> seller(x, v, 10), (y, v) -> seller(y, v, 10));
        refused("sort 6", NONE, (x, v) -> x.buyers(6, v), (y, v) -> y.buyers(6, v));
        refused("rule of 5", FALSE, (x, v) -> one(x.rule(5, v)), (y, v) -> one(y.rule(5, v)));
        refused("rule 3", FALSE, (x, v) -> one(x.rule(v, 3)), (y, v) -> one(y.rule(v, 3)));
        refused("best of 5", HIDDEN, (x, v) -> x.best(5, v, 0), (y, v) -> y.best(5, v, 0));
        refused("best of no days", HIDDEN, (x, v) -> x.best(v, 0, 0), (y, v) -> y.best(v, 0, 0));
        refused("fool 5", HIDDEN, (x, v) -> x.fool(5, v, 0), (y, v) -> y.fool(5, v, 0));
        refused("fool of 31", HIDDEN, (x, v) -> x.fool(v, 31, 0), (y, v) -> y.fool(v, 31, 0));
        refused("up to 21", NONE, (x, v) -> x.up(v, 21), (y, v) -> y.up(v, 21));
        refused("up of no days", NONE, (x, v) -> x.up(0, v), (y, v) -> y.up(0, v));
        refused("stranger of 0", HIDDEN, (x, v) -> x.stranger(0, v, 0), (y, v) -> y.stranger(0, v, 0));
        refused("stranger at 21", HIDDEN, (x, v) -> x.stranger(v, 21, 0),
                (y, v) -> y.stranger(v, 21, 0));
        refused("see behind 31", NONE, (x, v) -> x.see(31, v), (y, v) -> y.see(31, v));
        refused("see 21", NONE, (x, v) -> x.see(v, 21), (y, v) -> y.see(v, 21));
        refused("law 3", HIDDEN, (x, v) -> x.other(3, v, 0), (y, v) -> y.other(3, v, 0));
        refused("ask of 5", NONE, (x, v) -> x.ask(5, v, 1), (y, v) -> y.ask(5, v, 1));
        refused("ask on 30", NONE, (x, v) -> x.ask(v, 30, 1), (y, v) -> y.ask(v, 30, 1));
        refused("ask 21", NONE, (x, v) -> x.ask(0, v, 21), (y, v) -> y.ask(0, v, 21));
        refused("served of 6", NONE, (x, v) -> x.served(6, v, 0), (y, v) -> y.served(6, v, 0));
        refused("odds of 21", NONE, (x, v) -> x.odds(v, 21), (y, v) -> y.odds(v, 21));
        refused("odds of 11", NONE, (x, v) -> x.odds(11, v), (y, v) -> y.odds(11, v));
        refused("lone of 5", NONE, (x, v) -> x.lone(5, v), (y, v) -> y.lone(5, v));
    }

    private void rests() {
        Both both = new Both();
        state.set(both);
        int found = both.y.rest(NONE);
        Check.due("some rows rest", found > 1, true);
        row("rest", NONE, found - 1, NONE, (x, v) -> x.rest(v), (y, v) -> y.rest(v));
        row("best of days", 1, 3, HIDDEN, (x, v) -> x.best(0, v, 0), (y, v) -> y.best(0, v, 0));
        row("best gain of days", 1, 3, HIDDEN, (x, v) -> x.best(1, v, 1), (y, v) -> y.best(1, v, 1));
    }

    private void fullOnes() {
        refused("a sixth rule", NONE, (x, v) -> x.text(1), (y, v) -> y.text(1));
        refused("a 21st seen", NONE, (x, v) -> x.see(v, 9), (y, v) -> y.see(v, 9));
        refused("a 21st seen", NONE, (x, v) -> x.see(1, v), (y, v) -> y.see(1, v));
        refused("a 61st asking", NONE, (x, v) -> x.ask(v, 0, 9), (y, v) -> y.ask(v, 0, 9));
        refused("a 61st asking", NONE, (x, v) -> x.ask(0, 0, v), (y, v) -> y.ask(0, 0, v));
        // Each number but 0 has a byte that is not 0 somewhere.
        row("a full tape", 0, 0, NONE, (x, v) -> x.feed(v, 0, 0, 0, 0), (y, v) -> y.feed(v, 0, 0, 0, 0));
        row("a full tape", 0, 0, NONE, (x, v) -> x.feed(0, v, 0, 0, 0), (y, v) -> y.feed(0, v, 0, 0, 0));
        row("a full tape", 0, 0, NONE, (x, v) -> x.feed(0, 0, v, 0, 0), (y, v) -> y.feed(0, 0, v, 0, 0));
        row("a full tape", 0, 0, NONE, (x, v) -> x.feed(0, 0, 0, v, 0), (y, v) -> y.feed(0, 0, 0, v, 0));
        row("a full tape", 0, 0, NONE, (x, v) -> x.feed(0, 0, 0, 0, v), (y, v) -> y.feed(0, 0, 0, 0, v));
        row("end", 0, 160, FALSE, (x, v) -> one(x.end(v)), (y, v) -> one(y.end(v)));
        row("rule", NONE, 4, FALSE, (x, v) -> one(x.rule(0, v)), (y, v) -> one(y.rule(0, v)));
    }

    private void allHolding() {
        refused("bribe", HIDDEN, (x, v) -> x.bribe(v, 1), (y, v) -> y.bribe(v, 1));
        row("bribe", 1, 30, HIDDEN, (x, v) -> x.bribe(v, 0), (y, v) -> y.bribe(v, 0));
        refused("when", NONE, (x, v) -> x.when(v, 0), (y, v) -> y.when(v, 0));
        refused("hold", FALSE, (x, v) -> one(x.hold(v, true)), (y, v) -> one(y.hold(v, true)));
        row("hold no more", 0, 1, FALSE, (x, v) -> one(x.hold(v, false)),
                (y, v) -> one(y.hold(v, false)));
        refused("no image", NONE, (x, v) -> x.back(), (y, v) -> y.back());
        row("fool", 0, 1, HIDDEN, (x, v) -> x.fool(v, 3, 0), (y, v) -> y.fool(v, 3, 0));
        row("best", 0, 1, HIDDEN, (x, v) -> x.best(v, 2, 0), (y, v) -> y.best(v, 2, 0));
        row("lone", 0, 1, NONE, (x, v) -> x.lone(v, 0), (y, v) -> y.lone(v, 0));
        row("rest", NONE, 0, NONE, (x, v) -> x.rest(v), (y, v) -> y.rest(v));
    }

    /** Without a market all but texts, risk, seed and counts is refused. */
    private void withoutMarket() {
        row("end", 0, 5, FALSE, (x, v) -> one(x.end(v)), (y, v) -> one(y.end(v)));
        row("fault", 0, 1, -2, (x, v) -> x.fault(v), (y, v) -> y.fault(v));
        row("text", 1, 1, NONE, (x, v) -> x.text(v), (y, v) -> y.text(v));
        row("risk", 0, 100, FALSE, (x, v) -> one(x.risk(v)), (y, v) -> one(y.risk(v)));
        row("count", 0, 10, HIDDEN, (x, v) -> x.count(v), (y, v) -> y.count(v));
        refused("seller", THROWN, (x, v) -> seller(x, v, 0), (y, v) -> seller(y, v, 0));
        refused("buyers", NONE, (x, v) -> x.buyers(v, 0), (y, v) -> y.buyers(v, 0));
        refused("rule", FALSE, (x, v) -> one(x.rule(v, 0)), (y, v) -> one(y.rule(v, 0)));
        refused("rule", FALSE, (x, v) -> one(x.rule(0, v)), (y, v) -> one(y.rule(0, v)));
        refused("hold", FALSE, (x, v) -> one(x.hold(v, true)), (y, v) -> one(y.hold(v, true)));
        refused("hold", FALSE, (x, v) -> one(x.hold(v, false)), (y, v) -> one(y.hold(v, false)));
        refused("days", NONE, (x, v) -> x.days(v), (y, v) -> y.days(v));
        refused("ahead", NONE, (x, v) -> x.ahead(v), (y, v) -> y.ahead(v));
        refused("falls", NONE, (x, v) -> x.falls(v, 0), (y, v) -> y.falls(v, 0));
        refused("ring", NONE, (x, v) -> x.ring(v), (y, v) -> y.ring(v));
        refused("best", HIDDEN, (x, v) -> x.best(v, 1, 0), (y, v) -> y.best(v, 1, 0));
        refused("rest", HIDDEN, (x, v) -> x.rest(v), (y, v) -> y.rest(v));
        refused("fool", HIDDEN, (x, v) -> x.fool(v, 1, 0), (y, v) -> y.fool(v, 1, 0));
        refused("up", NONE, (x, v) -> x.up(1, v), (y, v) -> y.up(1, v));
        refused("when", NONE, (x, v) -> x.when(v, 0), (y, v) -> y.when(v, 0));
        refused("stranger", HIDDEN, (x, v) -> x.stranger(v, 1, 0), (y, v) -> y.stranger(v, 1, 0));
        refused("see", NONE, (x, v) -> x.see(v, 1), (y, v) -> y.see(v, 1));
        refused("fits", NONE, (x, v) -> x.fits(v), (y, v) -> y.fits(v));
        refused("other", HIDDEN, (x, v) -> x.other(0, v, 0), (y, v) -> y.other(0, v, 0));
        refused("ask", NONE, (x, v) -> x.ask(v, 0, 1), (y, v) -> y.ask(v, 0, 1));
        refused("month", NONE, (x, v) -> x.month(v, 0), (y, v) -> y.month(v, 0));
        refused("inTurn", HIDDEN, (x, v) -> x.inTurn(v, 0), (y, v) -> y.inTurn(v, 0));
        refused("bribe", HIDDEN, (x, v) -> x.bribe(v, 0), (y, v) -> y.bribe(v, 0));
        refused("spread", NONE, (x, v) -> x.spread(v, 0), (y, v) -> y.spread(v, 0));
        refused("served", NONE, (x, v) -> x.served(v, 1, 0), (y, v) -> y.served(v, 1, 0));
        refused("odds", NONE, (x, v) -> x.odds(v, 0), (y, v) -> y.odds(v, 0));
        refused("lone", NONE, (x, v) -> x.lone(v, 0), (y, v) -> y.lone(v, 0));
        refused("glut", NONE, (x, v) -> x.glut(v, 0), (y, v) -> y.glut(v, 0));
        refused("image", NONE, (x, v) -> x.image(), (y, v) -> y.image());
        refused("back", NONE, (x, v) -> x.back(), (y, v) -> y.back());
    }

    // ---- all that can be asked of an object, and what it goes on to do ----

    private static String trace(UnsoldPrice x) {
        StringBuilder b = new StringBuilder();
        look(x, b);
        questions(x, b);
        // The tape: its faults as both, then the rule that it makes behind a blank more.
        b.append(x.fault(0)).append(' ').append(x.fault(1)).append(' ');
        int made = x.text(1);
        b.append(made).append(' ').append(x.count(2)).append(' ').append(x.count(3)).append(' ');
        b.append(x.rule(0, made)).append(' ').append(x.ahead(3)).append('\n');
        // The draws, by the buyers who come.
        for (int k = 0; k < 6; k++) {
            b.append(x.days(1)).append(' ').append(x.count(6)).append(' ');
            b.append(x.buyers(0, 3)).append(' ').append(x.buyers(2, 3)).append('\n');
        }
        // The image.
        b.append(x.back()).append('\n');
        look(x, b);
        b.append(x.days(4)).append(' ').append(x.count(6)).append('\n');
        // The risk and the draws stay even behind another market.
        x.end(0);
        Check.market(x, "s;bv9m3w1");
        for (int k = 0; k < 8; k++) {
            b.append(x.days(1)).append(' ').append(x.buyers(0, 3)).append(' ');
        }
        return b.toString();
    }

    private static void look(UnsoldPrice x, StringBuilder b) {
        for (int what = 0; what <= 10; what++) {
            b.append(x.count(what)).append(' ');
        }
        for (int s = 0; s < x.count(0); s++) {
            for (int what = 0; what <= 9; what++) {
                b.append(seller(x, s, what)).append(' ');
            }
        }
        for (int s = 0; s < x.count(1); s++) {
            for (int what = 0; what <= 3; what++) {
                b.append(x.buyers(s, what)).append(' ');
            }
        }
        b.append('\n');
    }

    private static void questions(UnsoldPrice x, StringBuilder b) {
        for (int n = 1; n <= 13; n += 4) {
            for (int what = 0; what <= 1; what++) {
                b.append(x.falls(n, what)).append(' ').append(x.when(n, what)).append(' ');
                b.append(x.month(n, what)).append(' ').append(x.spread(n, what)).append(' ');
                b.append(x.glut(n, what)).append(' ').append(x.served(0, n, what)).append(' ');
            }
            b.append(x.inTurn(n, 1)).append(' ').append(x.other(1, n, 0)).append('\n');
        }
        for (int i = NONE; i <= 4; i++) {
            b.append(x.fits(i)).append(' ');
        }
        b.append(x.rest(NONE)).append(' ').append(x.up(3, 9)).append(' ').append(x.odds(2, 9));
        b.append(' ').append(x.lone(0, 1)).append(' ').append(x.ring(0)).append(' ');
        b.append(x.ring(1)).append(' ').append(x.bribe(2, 1)).append(' ');
        b.append(x.best(0, 1, 1)).append(' ').append(x.stranger(9, 9, 2)).append('\n');
    }
}
