import java.math.BigInteger;
import java.util.NoSuchElementException;

/** Each promise of the document by hand: ordinary inputs, the edges that it names, wrong inputs. */
public final class PromisesTest {
    private static final int NONE = UnsoldPrice.NONE;
    private static final int HIDDEN = UnsoldPrice.HIDDEN;
    /** Two sellers, two buyers: the first seller sells all, the second is left with its goods. */
    private static final String TWO = "sn2c1;sn2;bv10m2;lf8";
    /** The second seller asks less by a rule, and has one more than it sells: the board falls. */
    private static final String THREE = "sn2c1;sn3;bv10m2;lf8";
    private static String at = "";

    private PromisesTest() {
    }

    public static void main(String[] args) {
        at = "1 new: ";
        newObject();
        at = "2 feed: ";
        feed();
        at = "3 end: ";
        end();
        at = "4 fault: ";
        faultOfMarket();
        faultOfRule();
        at = "5 text: ";
        text();
        textOfNextMarket();
        at = "6 seller: ";
        seller();
        at = "7 buyers: ";
        buyers();
        at = "8 rule: ";
        rule();
        ruleWorth();
        ruleLetters();
        at = "9 hold: ";
        hold();
        at = "10, 11 risk, seed: ";
        feasts();
        at = "12 days: ";
        days();
        daysOfGoods();
        daysOfLaws();
        daysOfBuyers();
        at = "13, 14 ahead, falls: ";
        aheadAndFalls();
        at = "15 ring: ";
        ring();
        at = "16 best: ";
        best();
        at = "17 rest: ";
        rest();
        at = "18 fool: ";
        fool();
        at = "19 up: ";
        up();
        at = "20 when: ";
        when();
        at = "21 stranger: ";
        stranger();
        at = "22, 23 see, fits: ";
        seeAndFits();
        at = "24 other: ";
        other();
        at = "25, 26 ask, month: ";
        askAndMonth();
        at = "27 inTurn: ";
        inTurn();
        at = "28 bribe: ";
        bribe();
        at = "29 spread: ";
        spread();
        at = "30 served: ";
        served();
        at = "31 odds: ";
        odds();
        at = "32 lone: ";
        lone();
        at = "33 glut: ";
        glut();
        at = "34, 35 image, back: ";
        imageAndBack();
        at = "36 count: ";
        count();
        at = "apart: ";
        questionsChangeNothing();
        Check.finish();
    }

    private static void due(String call, int got, int want) {
        Check.due(at + call, got, want);
    }

    private static void due(String call, boolean got, boolean want) {
        Check.due(at + call, got, want);
    }

    private static UnsoldPrice open(String market, String... rules) {
        UnsoldPrice x = Check.open(market);
        for (int k = 0; k < rules.length; k++) {
            due("text(1) of " + rules[k], Check.rule(x, rules[k]), k);
        }
        return x;
    }

    /** A seller's number; the least number there is where the call throws. */
    private static int seller(UnsoldPrice x, int seller, int what) {
        try {
            return x.seller(seller, what);
        } catch (NoSuchElementException e) {
            return Integer.MIN_VALUE;
        }
    }

    private static void throwsNoSuch(UnsoldPrice x, int seller, int what) {
        due("seller(" + seller + ", " + what + ") throws", seller(x, seller, what),
                Integer.MIN_VALUE);
    }

    /** Numbers of one kind of all that is asked of sellers. */
    private static void sellers(UnsoldPrice x, String name, int what, int... want) {
        for (int s = 0; s < want.length; s++) {
            due(name + " of seller " + s, seller(x, s, what), want[s]);
        }
    }

    private static void newObject() {
        UnsoldPrice x = new UnsoldPrice();
        for (int what = 0; what <= 10; what++) {
            due("count(" + what + ")", x.count(what), 0);
        }
        due("fault(0)", x.fault(0), 0);
        due("fault(1)", x.fault(1), 0);
        due("text(0)", x.text(0), NONE);
        due("text(1)", x.text(1), NONE);
        throwsNoSuch(x, 0, 0);
        due("buyers", x.buyers(0, 0), NONE);
        due("rule", x.rule(0, NONE), false);
        due("hold", x.hold(0, true), false);
        due("days", x.days(1), NONE);
        due("ahead", x.ahead(1), NONE);
        due("falls", x.falls(1, 0), NONE);
        due("ring", x.ring(0), NONE);
        due("best", x.best(0, 1, 0), HIDDEN);
        due("rest", x.rest(NONE), HIDDEN);
        due("fool", x.fool(0, 1, 0), HIDDEN);
        due("up", x.up(1, 0), NONE);
        due("when", x.when(1, 0), NONE);
        due("stranger", x.stranger(1, 1, 0), HIDDEN);
        due("see", x.see(1, 1), NONE);
        due("fits", x.fits(NONE), NONE);
        due("other", x.other(0, 1, 0), HIDDEN);
        due("ask", x.ask(0, 0, 0), NONE);
        due("month", x.month(1, 0), NONE);
        due("inTurn", x.inTurn(1, 0), HIDDEN);
        due("bribe", x.bribe(1, 0), HIDDEN);
        due("bribe", x.bribe(1, 1), HIDDEN);
        due("spread", x.spread(1, 0), NONE);
        due("served", x.served(0, 1, 0), NONE);
        due("odds", x.odds(1, 0), NONE);
        due("lone", x.lone(0, 0), NONE);
        due("glut", x.glut(1, 0), NONE);
        due("image", x.image(), NONE);
        due("back", x.back(), NONE);
    }

    private static void feed() {
        UnsoldPrice x = new UnsoldPrice();
        due("no bytes", x.feed(0, 0, 0, 0, 0), 0);
        // s; and b stand apart, with bytes of 0 between.
        due("bytes of 0 are left out", x.feed('s' << 24, ';' << 16, 'b' << 8, 'v', 0x00390000), 5);
        due("the highest comes first", x.fault(0), NONE);
        due("more", x.feed(0x3B733B73, 0x3B733B73, 0, 0, 0), 13);
        UnsoldPrice full = new UnsoldPrice();
        for (int k = 1; k <= 7; k++) {
            due("twenty more", full.feed(0x20202020, 0x20202020, 0x20202020, 0x20202020, 0x20202020),
                    20 * k);
        }
        due("19 more", full.feed(0x20202020, 0x20202020, 0x20202020, 0x20202020, 0x20202000), 159);
        due("161 are too many", full.feed(0, 0x2020, 0, 0, 0), NONE);
        due("refused, it stays", full.count(3), 159);
        due("160", full.feed(0, 0, 0, 0, 0x20), 160);
        due("blanks alone", full.fault(0), 160);
        due("blanks alone", full.fault(1), 160);
        due("full", full.feed(0, 0, 1, 0, 0), NONE);
        due("full", full.feed(0, 0, 0, 1, 0), NONE);
        due("full", full.feed(1, 0, 0, 0, 0), NONE);
        due("full", full.feed(0, 0, 0, 0, 1 << 24), NONE);
        due("refused, it stays", full.count(3), 160);
        due("nothing more is fine", full.feed(0, 0, 0, 0, 0), 160);
        UnsoldPrice high = new UnsoldPrice();
        due("bytes above 127", high.feed(0xFFFEFDFC, 0x80000000, 0, 0, 0xFF), 6);
        due("bytes above 127 are no signs", high.fault(0), 0);
    }

    private static void end() {
        UnsoldPrice x = new UnsoldPrice();
        due("0 of 0", x.end(0), true);
        due("1 of 0", x.end(1), false);
        Check.tape(x, "s;bq");
        due("fault", x.fault(0), 3);
        due("-1", x.end(-1), false);
        due("5 of 4", x.end(5), false);
        due("refused, it stays", x.count(3), 4);
        due("4 of 4", x.end(4), true);
        due("3 of 4", x.end(3), true);
        due("the first three", x.fault(0), NONE);
        due("count", x.count(3), 3);
        due("4 of 3", x.end(4), false);
        due("least", x.end(Integer.MIN_VALUE), false);
        due("most", x.end(Integer.MAX_VALUE), false);
    }

    private static void faults(int sort, Object... textsAndFaults) {
        UnsoldPrice x = new UnsoldPrice();
        for (int k = 0; k + 1 < textsAndFaults.length; k += 2) {
            String text = (String) textsAndFaults[k];
            due("'" + text + "'", Check.fault(x, sort, text), (Integer) textsAndFaults[k + 1]);
            due("the tape stays", x.count(3), text.length());
        }
    }

    private static void faultOfMarket() {
        faults(0, "", 0, "s", 1, "b", 1, "l", 1, "s;", 2, "s;b", NONE, "b;s", NONE, "l;b;s", NONE,
                "s;l", 3, "s;b;", 4, ";s;b", 0, "s;;b", 2, "  s  ;  b  ", NONE, "   ", 3,
                "S;b", 0, "s b", 2, "s,b", 1, "sv1;b", 1, "bn1;s", 1, "lc1;s;b", 1);
        faults(0, "sn;b", 2, "sn", 2, "sn ", 3, "sn9;b", NONE, "sn10;b", 3, "sn1", 3, "sn09;b", NONE,
                "sn009;b", 4, "sn999;b", 4, "sn1 0;b", 4, "sn 1;b", NONE, "sn-1;b", 2,
                "sc20;b", NONE, "sc21;b", 3, "sc99;b", 3, "sr9;b", NONE, "sr10;b", 3,
                "sn1n1;b", 3, "sn1c2r3;b", NONE, "sr1c2n3;b", NONE, "sn1c2r3n1;b", 7);
        faults(0, "s;bv20", NONE, "s;bv21", 5, "s;bm0", 4, "s;bm05", NONE, "s;bm9", NONE,
                "s;bm10", 5, "s;bw3", NONE, "s;bw4", 4, "s;bw4v", 4, "s;bv1v1", 5, "s;bm00", 5,
                "s;b;lq2", NONE, "s;b;lq3", 6, "s;b;lf20", NONE, "s;b;lf21", 7, "s;b;lq0q1", 7,
                "s;b;l;l", 6, "s;b;lf1q2", NONE);
        faults(0, "sn0c0r0;bv0m1w0;lq0f0", NONE, "sn00c00r00;bv00m01w00;lq00f00", NONE);
        faults(0, "s;s;s;s;s;b", NONE, "s;s;s;s;s;s;b", 10, "b;b;b;b;b;b;s", NONE,
                "b;b;b;b;b;b;b", 12, "s;s;s;s;s", 9, "s;b" + (char) 200, 3, "s;b\t", 3);
        UnsoldPrice x = new UnsoldPrice();
        due("no such sort", x.fault(-1), -2);
        due("no such sort", x.fault(2), -2);
    }

    private static void faultOfRule() {
        faults(1, "", 0, "y", 1, "y:", 2, "y:p", NONE, "y:1;", 4, "y:1;y:2", NONE, " y : 1 ", NONE,
                "x", 0, "y1", 1, "y:x", 2, "y:1 2", 4, "y:1234", NONE, "y:12345", 6, "y:00001", 6,
                "y:-1", 2, "y:p g c", 4, "y:pg", 3, "y:p+", 4, "y:p+g-c*d/u+w", NONE, "y:p%2", 3);
        faults(1, "y:p=1", 5, "y:p=1;", 5, "y:p=1?", 6, "y:p=1?2", NONE, "y:p?2", 3, "y:p&g=1?1", 3,
                "y:p=1&g<2|d>3?p-1;y:p", NONE, "y:p==1", 4, "y:p=1=2", 5, "y:p=1?2?3", 7,
                "y:p=1?!2", 6, "y:p=1?2=3", 7, "y:p=1&?", 6, "y:p=1|", 6, "y:p<=1", 4);
        faults(1, "y:(p=1)?1", NONE, "y:(p)?1", 4, "y:(p=1?1", 6, "y:((p=1))?1", NONE,
                "y:!p=1?1", NONE, "y:!p?1", 4, "y:!!(p=1|g=2)&c=3?1", NONE, "y:(p=1)=2?1", 7,
                "y:(p=1)", 7, "y:(p=1)+2", 7, "y:()?1", 3, "y:[p]", NONE, "y:[p", 4, "y:[p=1]", 4,
                "y:[p]=[1]?[2]", NONE, "y:[(p=1)]", 3, "y:[]", 3, "y:p)", 3, "y:p]", 3);
        faults(1, "y:!!!!!!p=1?1", NONE, "y:!!!!!!!p=1?1", 8, "y:((((((p=1))))))?1", NONE,
                "y:(((((((p=1)))))))?1", 8, "y:[[[[[[p]]]]]]", NONE, "y:[[[[[[[p]]]]]]]", 8,
                "y:!(!([!", 7, "y:!(!(![p]=1))?1", NONE, "y:!(!(![[p]]=1))?1", 8,
                "y:!(!(!p=[[p]]))?1", 10, "y:!(!(!p=[p]+[g]&[c]=1))?[[[[[[p]]]]]]", NONE,
                "y:!!!!!!p=1&!!!!!!p=1?1", NONE);
    }

    private static void text() {
        UnsoldPrice x = new UnsoldPrice();
        Check.tape(x, "sn2;b;bv5");
        due("a market is no rule", x.text(1), NONE);
        due("no such sort", x.text(2), NONE);
        due("no such sort", x.text(-1), NONE);
        due("refused, the tape stays", x.count(3), 9);
        due("how many sellers", x.text(0), 1);
        due("the tape is empty", x.count(3), 0);
        due("sellers", x.count(0), 1);
        due("sorts", x.count(1), 2);
        for (int k = 0; k < 5; k++) {
            due("rule " + k, Check.rule(x, "y:" + k), k);
            due("the tape is empty", x.count(3), 0);
        }
        due("there are five", Check.rule(x, "y:5"), NONE);
        due("refused, the tape stays", x.count(3), 3);
        due("rules", x.count(2), 5);
        Check.tape(x, "s;s");
        due("a fault", x.text(0), NONE);
        due("refused, the market stays", x.count(1), 2);
        due("rules stand without a market", Check.rule(new UnsoldPrice(), "y:1"), 0);
    }

    private static void textOfNextMarket() {
        UnsoldPrice x = open("sn2c1;sn2;bv10m2w3;lf8", "y:p-1");
        x.rule(1, 0);
        x.hold(0, true);
        x.hold(1, true);
        x.days(1);
        due("both wait", x.buyers(0, 3), 2);
        x.hold(1, false);
        x.risk(30);
        x.days(3);
        x.see(1, 1);
        x.ask(0, 0, 1);
        x.image();
        due("a day", x.count(4), 4);
        due("the next market", Check.market(x, "s;s;s;bw1;lf9q1"), 3);
        due("day", x.count(4), 0);
        due("board", x.count(5), 9);
        due("surplus", x.count(6), 0);
        due("seen", x.count(7), 0);
        due("askings", x.count(8), 0);
        due("rules stay", x.count(2), 1);
        due("the image is of another", x.back(), NONE);
        sellers(x, "goods", 3, 0, 0, 0);
        sellers(x, "left", 4, 0, 0, 0);
        sellers(x, "gain", 5, 0, 0, 0);
        sellers(x, "rule", 6, NONE, NONE, NONE);
        sellers(x, "holds", 7, 0, 0, 0);
        sellers(x, "asked", 8, NONE, NONE, NONE);
        sellers(x, "sold", 9, 0, 0, 0);
        due("nobody waits", x.buyers(0, 3), 0);
        // Seller 0 asks 9 of buyers worth 10 that come by two a day: with a feast one more sells.
        due("risk stays: of 10 to the 9 parts", x.odds(1, 0), 1000000000);
        Check.market(x, "sn3;bv10m2;lf8");
        x.rule(0, 0);
        due("risk stays: a feast sells all", x.odds(1, 8), 300000000);
    }

    private static void seller() {
        UnsoldPrice x = open("s;sn2c20r1;b;lf7", "y:3");
        sellers(x, "new", 0, 3, 2);
        sellers(x, "cost", 1, 1, 20);
        sellers(x, "rot", 2, 0, 1);
        sellers(x, "goods", 3, 0, 0);
        sellers(x, "left", 4, 0, 0);
        sellers(x, "gain", 5, 0, 0);
        sellers(x, "rule", 6, NONE, NONE);
        sellers(x, "holds", 7, 0, 0);
        sellers(x, "asked", 8, NONE, NONE);
        sellers(x, "sold", 9, 0, 0);
        x.rule(0, 0);
        x.hold(1, true);
        x.days(1);
        // The first asks 3 and sells two of three; the second holds: two left, one rots.
        sellers(x, "goods", 3, 1, 1);
        sellers(x, "left", 4, 1, 2);
        sellers(x, "gain", 5, 6 - 3, -40);
        sellers(x, "rule", 6, 0, NONE);
        sellers(x, "holds", 7, 0, 1);
        sellers(x, "asked", 8, 3, 7);
        sellers(x, "sold", 9, 2, 0);
        throwsNoSuch(x, -1, 0);
        throwsNoSuch(x, 2, 0);
        throwsNoSuch(x, 0, -1);
        throwsNoSuch(x, 0, 10);
        throwsNoSuch(x, Integer.MAX_VALUE, Integer.MIN_VALUE);
    }

    private static void buyers() {
        UnsoldPrice x = open("s;b;bv20m9w3;lf11");
        due("worth", x.buyers(0, 0), 10);
        due("many", x.buyers(0, 1), 2);
        due("waits", x.buyers(0, 2), 0);
        due("waiting", x.buyers(0, 3), 0);
        due("worth", x.buyers(1, 0), 20);
        due("many", x.buyers(1, 1), 9);
        due("waits", x.buyers(1, 2), 3);
        x.days(1);
        due("six of nine wait", x.buyers(1, 3), 6);
        due("who may not wait goes", x.buyers(0, 3), 0);
        due("no such sort", x.buyers(-1, 0), NONE);
        due("no such sort", x.buyers(2, 0), NONE);
        due("no such what", x.buyers(0, -1), NONE);
        due("no such what", x.buyers(0, 4), NONE);
    }

    private static void rule() {
        UnsoldPrice x = open(TWO, "y:5", "y:6");
        due("rule 1 of seller 0", x.rule(0, 1), true);
        due("it is so", x.rule(0, 1), true);
        due("told", seller(x, 0, 6), 1);
        due("no such rule", x.rule(0, 2), false);
        due("no such rule", x.rule(0, -2), false);
        due("no such seller", x.rule(2, 0), false);
        due("no such seller", x.rule(-1, 0), false);
        due("refused, it stays", seller(x, 0, 6), 1);
        x.days(1);
        sellers(x, "asked", 8, 6, 8);
        due("none", x.rule(0, NONE), true);
        due("told", seller(x, 0, 6), NONE);
        x.days(1);
        sellers(x, "asked: the board", 8, 8, 8);
    }

    /** What a rule is worth, asked of a seller below a board of 20. */
    private static int worth(String rule) {
        UnsoldPrice x = open("sn4c7;b;lf20", rule);
        x.rule(0, 0);
        x.days(1);
        return seller(x, 0, 8);
    }

    private static void ruleWorth() {
        due("a number", worth("y:9"), 9);
        due("not above the board", worth("y:21"), 20);
        due("not below 0", worth("y:3-4"), 0);
        due("sum", worth("y:9-2-3+1"), 5);
        due("product ahead of sum", worth("y:2+3*4"), 14);
        due("brackets", worth("y:[2+1]*4"), 12);
        due("from the left", worth("y:20/3*2"), 12);
        due("cut towards 0", worth("y:9+[0-7]/2"), 6);
        due("cut towards 0", worth("y:9+7/[0-2]"), 6);
        due("by 0", worth("y:9/0+4"), 4);
        due("within a million", worth("y:9999*9999/9999"), 20);
        due("within a million", worth("y:[9999*9999-9999*100]/9999"), 0);
        due("within a million", worth("y:9999*9999/9999/10"), 10);
        due("within minus a million", worth("y:[[0-9999]*9999]/9999+[9999*9999]/9999+3"), 3);
        due("within a million in between", worth("y:[9999*9999+9999-9999*99]/1000"), 10);
        due("the first that holds", worth("y:p<20?1;y:p=20?2;y:3"), 2);
        due("without a condition", worth("y:p<20?1;y:3;y:4"), 3);
        due("none holds", worth("y:p<20?11;y:p>20?12"), 0);
        due("and ahead of or", worth("y:1=1|1=1&1=2?5;y:6"), 5);
        due("not binds its unit", worth("y:!1=2&1=2?5;y:6"), 6);
        due("not of brackets", worth("y:!(1=2&1=2)?5;y:6"), 5);
        due("not not", worth("y:!!1=1?5;y:6"), 5);
        due("not of what holds", worth("y:!1=1?5;y:6"), 6);
        due("not of what holds", worth("y:!1<2?5;y:6"), 6);
        due("not of what holds", worth("y:!2>1?5;y:6"), 6);
        due("and of the first", worth("y:1=2&1=1?5;y:6"), 6);
        due("and of the last", worth("y:1=1&1=2?5;y:6"), 6);
        due("and of both", worth("y:1=1&2=2?5;y:6"), 5);
        due("or of the first", worth("y:1=1|1=2?5;y:6"), 5);
        due("or of none", worth("y:1=2|1=2?5;y:6"), 6);
        due("a million", worth("y:9999*9999-9999*100-95"), 5);
        due("minus a million", worth("y:[0-9999]*9999+9999*100+105"), 5);
        due("a sum within a million", worth("y:[9999*100+101]-9999*100-95"), 5);
        due("or of the last", worth("y:1=2|1=2|1>0?5;y:6"), 5);
        due("less", worth("y:1<1|2<1?5;y:1<2?6"), 6);
        due("greater", worth("y:1>1|1>2?5;y:2>1?6"), 6);
        due("sums compared", worth("y:2*3=3+3&[4]=8/2?5"), 5);
    }

    private static void ruleLetters() {
        due("p the board", worth("y:p-1"), 19);
        due("g its goods, new ones too", worth("y:g"), 4);
        due("c its cost", worth("y:c"), 7);
        due("d the day", worth("y:d+3"), 3);
        due("u left yesterday", worth("y:u+2"), 2);
        due("w buyers in all", worth("y:w"), 2);
        UnsoldPrice x = open("sn4r2;bv3m2w3;bv1m3;lf20", "y:d", "y:u", "y:w", "y:g");
        x.rule(0, 1);
        x.hold(0, true);
        x.days(1);
        x.hold(0, false);
        // Four were left, two of them rotted; two buyers wait, five more come; six goods.
        due("board", x.count(5), 20);
        due("u ahead of the night", x.ahead(1), 4);
        x.rule(0, 2);
        due("w who waits, too", x.ahead(1), 7);
        x.rule(0, 3);
        due("g what did not rot, and new", x.ahead(1), 6);
        x.rule(0, 0);
        x.days(1);
        due("d the second day", seller(x, 0, 8), 1);
    }

    private static void hold() {
        UnsoldPrice x = open(TWO, "y:1");
        due("so already", x.hold(0, false), false);
        due("hold", x.hold(0, true), true);
        due("so already", x.hold(0, true), false);
        due("no such seller", x.hold(2, true), false);
        due("no such seller", x.hold(-1, true), false);
        due("told", seller(x, 0, 7), 1);
        due("the other does not", seller(x, 1, 7), 0);
        x.rule(0, 0);
        x.days(1);
        due("asks the board", seller(x, 0, 8), 8);
        due("sells nothing", seller(x, 0, 9), 0);
        due("the other sells", seller(x, 1, 9), 2);
        due("its unsold goods lead the board", x.count(5), 8);
        due("not any more", x.hold(0, false), true);
        x.days(1);
        due("asks by its rule", seller(x, 0, 8), 1);
    }

    private static void feasts() {
        UnsoldPrice x = open("sn9;bv10m2;lf8");
        due("101", x.risk(101), false);
        due("-1", x.risk(-1), false);
        due("0", x.risk(0), true);
        x.days(1);
        due("no feast", seller(x, 0, 9), 2);
        due("100", x.risk(100), true);
        due("refused, it stays", x.risk(101), false);
        x.days(1);
        due("a feast", seller(x, 0, 9), 4);
        draws(0L, false);
        draws(5L, true);
        draws(-7777777777777L, true);
        draws(Long.MIN_VALUE, true);
        UnsoldPrice three = open("sn9;bv10m3;lf8");
        three.risk(100);
        three.days(1);
        due("twice as many", seller(three, 0, 9), 6);
        rareFeasts();
        UnsoldPrice without = open("sn9;bv10m2;lf8");
        without.days(5);
        without.risk(50);
        BigInteger draw = BigInteger.ZERO;
        for (int k = 0; k < 8; k++) {
            draw = nextDraw(draw);
            without.days(1);
            due("days without risk draw nothing", seller(without, 0, 9), isFeast(draw, 50) ? 4 : 2);
        }
        due("without a market", new UnsoldPrice().risk(7), true);
        due("without a market", new UnsoldPrice().seed(7), true);
    }

    /** With a risk of 1 a draw of 0 alone is a feast. */
    private static void rareFeasts() {
        UnsoldPrice x = open("sn9;bv10m2;lf8");
        x.risk(1);
        int feasts = 0;
        for (int k = 0; k < 400; k++) {
            BigInteger draw = nextDraw(BigInteger.valueOf(k));
            x.seed(k);
            x.days(1);
            due("risk 1, seed " + k, seller(x, 0, 9), isFeast(draw, 1) ? 4 : 2);
            feasts += isFeast(draw, 1) ? 1 : 0;
        }
        due("some were feasts", feasts > 0, true);
    }

    private static BigInteger nextDraw(BigInteger x) {
        return x.multiply(new BigInteger("6364136223846793005"))
                .add(new BigInteger("1442695040888963407")).mod(BigInteger.ONE.shiftLeft(64));
    }

    private static boolean isFeast(BigInteger x, int risk) {
        return x.shiftRight(33).mod(BigInteger.valueOf(100)).intValue() < risk;
    }

    private static void draws(long seed, boolean tell) {
        UnsoldPrice x = open("sn9;bv10m2;lf8");
        x.risk(37);
        if (tell) {
            due("seed", x.seed(seed), true);
        }
        BigInteger draw = BigInteger.valueOf(seed).mod(BigInteger.ONE.shiftLeft(64));
        for (int k = 0; k < 40; k++) {
            draw = nextDraw(draw);
            x.days(1);
            due("draw " + k + " of seed " + seed, seller(x, 0, 9), isFeast(draw, 37) ? 4 : 2);
        }
    }

    private static void days() {
        UnsoldPrice x = open(TWO, "y:p-1");
        due("0", x.days(0), NONE);
        due("31", x.days(31), NONE);
        due("-1", x.days(-1), NONE);
        due("refused, it stays", x.count(4), 0);
        due("the first sells all, the second none", x.days(1), 8);
        sellers(x, "gain", 5, 14, -2);
        x.rule(1, 0);
        due("the second asks 7, is left with two", x.days(1), 7);
        sellers(x, "sold", 9, 0, 2);
        sellers(x, "left", 4, 2, 2);
        due("and goes on to fall", x.days(3), 4);
        due("day", x.count(4), 5);
        due("thirty", x.days(30), 0);
        due("day", x.count(4), 35);
        UnsoldPrice free = open("sn1;bv10m1;lf8", "y:3");
        free.rule(0, 0);
        due("all is sold: free", free.days(1), 8);
        due("asked", seller(free, 0, 8), 3);
        UnsoldPrice none = open("sn0;b;lf6");
        due("no goods: free", none.days(2), 6);
    }

    private static void daysOfGoods() {
        UnsoldPrice x = open("sn9c2;bv1m1;lf5");
        x.days(10);
        due("ten times nine", seller(x, 0, 3), 90);
        x.days(1);
        due("99 at most", seller(x, 0, 3), 99);
        due("paid", seller(x, 0, 5), -198);
        x.days(3);
        due("those above are not brought", seller(x, 0, 3), 99);
        due("nor paid", seller(x, 0, 5), -198);
        UnsoldPrice part = open("sn7c1r4;bv1m1;lf5");
        part.days(1);
        due("left", seller(part, 0, 4), 7);
        due("four rot", seller(part, 0, 3), 3);
        UnsoldPrice all = open("sn2r9;bv1m1;lf5");
        all.days(1);
        due("as far as there is", seller(all, 0, 3), 0);
        due("left", seller(all, 0, 4), 2);
        UnsoldPrice some = open("sn9r1;bv1m1;lf5");
        some.days(12);
        due("97 behind the night", seller(some, 0, 3), 96);
        some.days(1);
        due("99 in the morning, 98 behind the night", seller(some, 0, 3), 98);
        due("three were paid on the last day", seller(some, 0, 5), -9 * 12 - 3);
    }

    /** The board behind a day on which four ask 3, 9, 5 and 9, and all have some left. */
    private static int board(String law) {
        UnsoldPrice x = open("sn9;sn9;sn9;sn9;bv20m1;" + law, "y:3", "y:9", "y:5");
        x.rule(0, 0);
        x.rule(1, 1);
        x.rule(2, 2);
        x.rule(3, 1);
        return x.days(1);
    }

    private static void daysOfLaws() {
        due("usual: free", open("s;b").count(9), 12);
        due("usual: leads", open("s;b").count(10), 0);
        due("the cheapest", board("lf12"), 3);
        due("the cheapest", board("lf12q0"), 3);
        due("the dearest", board("lf12q1"), 9);
        due("of 3, 5, 9, 9 the middle", board("lf12q2"), 5);
        UnsoldPrice three = open("sn1;sn9;sn9;bv20m1;lf12q2", "y:3", "y:9", "y:5");
        three.rule(0, 0);
        three.rule(1, 1);
        three.rule(2, 2);
        due("who sold all does not count: of 5, 9 the middle", three.days(1), 5);
        due("free of 0", open("s;b;lf0").days(1), 0);
        UnsoldPrice middle = open("sn9;sn9;sn9;bv20m1;lf12q2", "y:3", "y:9", "y:5");
        middle.rule(0, 1);
        middle.rule(1, 2);
        middle.rule(2, 0);
        due("of 3, 5, 9 the middle", middle.days(1), 5);
    }

    private static void daysOfBuyers() {
        UnsoldPrice x = open("sn1c0;sn1c0;sn1c0;bv4m1;bv9m1;bv4m1;lf12", "y:4", "y:3");
        x.rule(0, 0);
        x.rule(1, 1);
        x.rule(2, 1);
        x.days(1);
        // The one worth 9 buys at 3 first, then the sorts worth 4 at 3 and at 4.
        sellers(x, "sold", 9, 1, 1, 1);
        due("surplus", x.count(6), 6 + 1 + 0);
        UnsoldPrice few = open("sn1c0;bv4m1w1;bv4m1w1;lf4");
        few.days(1);
        due("of like worth the lower sort", few.buyers(0, 3), 0);
        due("the higher waits", few.buyers(1, 3), 1);
        UnsoldPrice dear = open("s;bv4m1;lf5");
        dear.days(1);
        due("not above its worth", seller(dear, 0, 9), 0);
        UnsoldPrice old = open("sn1;bv10m2w1;lf8");
        old.days(2);
        due("those who came first buy first", old.buyers(0, 3), 2);
        old.days(1);
        due("one of them went else", old.served(0, 1, 1), 1);
        UnsoldPrice three = open("s;bv5w3m1;lf9");
        for (int k = 1; k <= 6; k++) {
            three.days(1);
            due("who waits three days more", three.buyers(0, 3), Math.min(k, 3));
        }
        UnsoldPrice last = open("sn0;sn2c0;bv5w3m1;lf9", "y:p-p*[d/3]");
        last.hold(1, true);
        last.days(3);
        due("three wait", last.buyers(0, 3), 3);
        last.hold(1, false);
        last.rule(1, 0);
        due("on the last day they buy", last.served(0, 1, 0), 4);
        due("none goes", last.served(0, 1, 1), 0);
        last.rule(1, NONE);
        due("else one goes", last.served(0, 1, 1), 1);
        due("else two go", last.served(0, 2, 1), 2);
        UnsoldPrice sorts = open("sn1c0;sn1c0;sn1c0;bv5m1;bv7m1;bv9m1;lf9", "y:7", "y:5");
        sorts.rule(0, 1);
        sorts.rule(1, 0);
        sorts.days(1);
        due("the greatest worth first: 9 at 5, 7 at 7", sorts.count(6), 4);
        due("5 buys none", sorts.served(0, 1, 0), 0);
        due("7 buys", sorts.served(1, 1, 0), 1);
        UnsoldPrice line = open("sn1c0;sn1c0;sn1c0;bv9m2;lf9", "y:7", "y:6", "y:5");
        line.rule(0, 0);
        line.rule(1, 1);
        line.rule(2, 2);
        line.days(1);
        sellers(line, "the cheapest sell", 9, 0, 1, 1);
        UnsoldPrice feast = open("s;bv5w1m2;lf9");
        feast.risk(100);
        feast.days(1);
        due("twice as many come", feast.buyers(0, 3), 4);
    }

    private static void aheadAndFalls() {
        UnsoldPrice x = open(THREE, "y:p-1");
        x.rule(1, 0);
        due("one day", x.ahead(1), 7);
        due("thirty days", x.ahead(30), 0);
        due("0", x.ahead(0), NONE);
        due("31", x.ahead(31), NONE);
        due("no jump", x.falls(3, 0), 0);
        due("from 8 to 5", x.falls(3, 1), 3);
        due("0", x.falls(0, 0), NONE);
        due("31", x.falls(31, 0), NONE);
        due("no such what", x.falls(1, 2), NONE);
        due("no such what", x.falls(1, -1), NONE);
        UnsoldPrice sold = open("sn1c0;bv9m4;lf8", "y:p-2");
        sold.rule(0, 0);
        due("a jump a day", sold.falls(4, 0), 4);
        due("no fall beside jumps", sold.falls(4, 1), 0);
        UnsoldPrice slow = open("sn1c0;bv3m4;lf9", "y:p-2");
        slow.rule(0, 0);
        // Boards 7, 5, then the asking of 3 sells all three: a jump to 9, then 7.
        due("7", slow.ahead(1), 7);
        due("5", slow.ahead(2), 5);
        due("free", slow.ahead(3), 9);
        due("7", slow.ahead(4), 7);
        due("one jump", slow.falls(4, 0), 1);
        due("from 9 to 5", slow.falls(4, 1), 4);
        slow.days(3);
        due("the board as it is counts", slow.falls(1, 1), 2);
        x.risk(100);
        UnsoldPrice feast = open("sn3;bv10m2;lf8", "y:5");
        feast.rule(0, 0);
        feast.risk(100);
        due("with a feast all three would be sold", feast.odds(1, 8), 1000000000);
        due("without feasts", feast.ahead(1), 5);
    }

    private static void ring() {
        UnsoldPrice x = open(TWO);
        due("99 goods stay 99", x.ring(0), 50);
        due("a day on", x.ring(1), 1);
        due("no such what", x.ring(2), NONE);
        due("no such what", x.ring(-1), NONE);
        UnsoldPrice grows = open("sn1;bv1m1;lf8");
        due("none within 60 days", grows.ring(0), NONE);
        due("none within 60 days", grows.ring(1), NONE);
        UnsoldPrice same = open("sn2;bv9m2;lf8");
        due("at once", same.ring(0), 0);
        due("a day on", same.ring(1), 1);
        // A board that falls by 2 from 9, and is free behind the day on which 3 is asked.
        UnsoldPrice saw = open("sn1r9;bv3m4;lf9", "y:p-2");
        saw.rule(0, 0);
        due("9, 7, 5, 9", saw.ring(0), 0);
        due("but not what was left", saw.ahead(3), 9);
        due("three days on", saw.ring(1), 3);
        // Goods grow by one a day from 0 on, and 99 are reached behind day 59 + 40.
        UnsoldPrice late = open("sn1;bv1m1;lf8");
        late.days(30);
        late.days(9);
        due("99 goods too late by one", late.ring(0), NONE);
        late.days(1);
        due("within 60 days", late.ring(0), 59);
        due("a day on", late.ring(1), 1);
        UnsoldPrice day = open("sn2;bv9m2;lf8", "y:d");
        day.rule(0, 0);
        due("the day does not count", day.ring(1), 1);
        // Waiting buyers: four ages fill up one by one.
        UnsoldPrice waits = open("sn1r9;bv5m1w3;lf9");
        due("who waits counts", waits.ring(0), 3);
    }

    private static void best() {
        UnsoldPrice x = open(TWO);
        due("the first: as dear as may be", x.best(0, 1, 0), 8);
        due("gain", x.best(0, 1, 1), 14);
        due("the second: below the first", x.best(1, 1, 0), 7);
        due("gain", x.best(1, 1, 1), 12);
        due("two days: 7, then 7", x.best(1, 2, 0), 707);
        due("gain", x.best(1, 2, 1), 24);
        due("three days of the first", x.best(0, 3, 0), 80808);
        due("gain", x.best(0, 3, 1), 42);
        due("no days", x.best(0, 0, 0), HIDDEN);
        due("four days", x.best(0, 4, 0), HIDDEN);
        due("no such seller", x.best(2, 1, 0), HIDDEN);
        due("no such seller", x.best(-1, 1, 0), HIDDEN);
        due("no such what", x.best(0, 1, 2), HIDDEN);
        due("no such what", x.best(0, 1, -1), HIDDEN);
        x.hold(1, true);
        due("it does not hold for that", x.best(1, 1, 1), 12);
        x.hold(0, true);
        due("others who hold do", x.best(1, 1, 0), 8);
        UnsoldPrice none = open("sn2c3;bv1m1;lf5");
        due("one at 1 is best", none.best(0, 1, 0), 1);
        due("a loss is the gain", none.best(0, 1, 1), 1 - 6);
        UnsoldPrice later = open("sn2c3;bv5m1;lf5");
        later.days(3);
        due("more, of these days alone", later.best(0, 1, 1), 5 - 6);
        UnsoldPrice like = open("sn0c0;b;lf5");
        due("of several the least", like.best(0, 3, 0), 0);
        due("no gain", like.best(0, 3, 1), 0);
        UnsoldPrice board = open("sn1c0;bv20m1;lf3");
        due("free again each day", board.best(0, 3, 0), 30303);
    }

    private static void rest() {
        UnsoldPrice x = open(TWO);
        due("how many", x.rest(NONE), 3);
        due("0, 0", x.rest(0), 0);
        due("1, 0", x.rest(1), 100);
        due("1, 1", x.rest(2), 101);
        due("no such one", x.rest(3), NONE);
        due("no such one", x.rest(-2), NONE);
        due("no such one", x.rest(Integer.MAX_VALUE), NONE);
        x.hold(0, true);
        due("who holds asks the board", x.rest(NONE), 1);
        due("the other asks the most", x.rest(0), 808);
        x.hold(1, true);
        due("all hold", x.rest(0), 808);
        due("one row", x.rest(NONE), 1);
        due("four sellers", open("s;s;s;s;b").rest(NONE), HIDDEN);
        UnsoldPrice three = open("sn1;sn1;sn1;bv3m3;lf20");
        due("three for three", three.rest(0), 30303);
        due("none else", three.rest(1), NONE);
        UnsoldPrice one = open("sn1c9;bv7m1;lf20");
        due("one seller", one.rest(0), 7);
        UnsoldPrice nothing = open("sn0;sn0;sn0;b;lf20");
        due("nobody takes anything: all rows", nothing.rest(NONE), 9261);
        due("the last", nothing.rest(9260), 202020);
        due("one behind a hundred", nothing.rest(22), 101);
        due("no such one", nothing.rest(9261), NONE);
    }

    private static void fool() {
        UnsoldPrice x = open(TWO);
        due("wage", x.fool(0, 1, 0), 16);
        due("worth to the rest", x.fool(0, 1, 1), 16);
        due("the second sells nothing either way", x.fool(1, 1, 0), 0);
        x.hold(0, true);
        due("against not, though it holds", x.fool(0, 1, 0), 16);
        due("others who hold do: nobody sells", x.fool(1, 1, 0), 16);
        due("and nobody gains", x.fool(1, 1, 1), 0);
        due("no such seller", x.fool(2, 1, 0), HIDDEN);
        due("no such seller", x.fool(-1, 1, 0), HIDDEN);
        due("no days", x.fool(0, 0, 0), HIDDEN);
        due("31 days", x.fool(0, 31, 0), HIDDEN);
        due("no such what", x.fool(0, 1, 2), HIDDEN);
        due("no such what", x.fool(0, 1, -1), HIDDEN);
        due("thirty days", x.fool(0, 30, 0), 30 * 16);
    }

    private static void up() {
        UnsoldPrice x = open("sn3;sn3;sn3;bv10m2;lf8", "y:p-1", "y:p-2");
        x.rule(0, 0);
        x.rule(2, 1);
        due("all by rules: 6", x.up(1, 6), 0);
        due("the third holds", x.up(1, 7), 4);
        due("the first and the third hold", x.up(1, 8), 5);
        due("it can't be", x.up(1, 9), NONE);
        x.hold(0, true);
        due("these, no others", x.up(1, 8), 5);
        due("0 is kept always", x.up(30, 0), 0);
        due("no days", x.up(0, 0), NONE);
        due("31 days", x.up(31, 0), NONE);
        due("price -1", x.up(1, -1), NONE);
        due("price 20", x.up(1, 20), NONE);
        due("price 21", x.up(1, 21), NONE);
        UnsoldPrice like = open("sn1;sn1;bv10m2;lf8", "y:5");
        like.rule(0, 0);
        due("all sold: free", like.up(1, 8), 0);
        // The third sells to all, or the first two do.
        UnsoldPrice fewest = open("sn4;sn5;sn9;bv20m9;lf8", "y:p-1", "y:p-2");
        fewest.rule(0, 0);
        fewest.rule(1, 0);
        fewest.rule(2, 1);
        due("nobody", fewest.up(1, 7), 0);
        due("the third, not the first two", fewest.up(1, 8), 4);
        UnsoldPrice either = open("sn9;sn9;sn9;bv20m9;lf8", "y:p-1");
        either.rule(0, 0);
        either.rule(1, 0);
        due("of several the least", either.up(1, 8), 1);
        UnsoldPrice several = open("sn9;sn9;bv10m1;lf8", "y:p-1");
        several.rule(0, 0);
        several.rule(1, 0);
        due("both", several.up(1, 8), 3);
    }

    private static void when() {
        UnsoldPrice x = open("sn3;sn3;bv10m2;lf8", "y:d=2?3;y:d=4?3;y:p");
        x.rule(1, 0);
        due("the board", x.when(2, 0), 0);
        due("how much", x.when(2, 1), 8);
        due("no such what", x.when(1, 2), NONE);
        due("on the third day", x.when(5, 0), 2);
        due("how much", x.when(5, 1), 3);
        x.days(2);
        due("from now", x.when(3, 0), 0);
        x.hold(0, true);
        x.hold(1, true);
        due("all hold", x.when(30, 0), NONE);
        due("all hold", x.when(30, 1), NONE);
        due("no days", x.when(0, 0), NONE);
        due("31 days", x.when(31, 0), NONE);
        due("no such what", x.when(1, 2), NONE);
        due("no such what", x.when(1, -1), NONE);
        UnsoldPrice first = open("sn1;sn1;b;lf8", "y:1");
        first.rule(0, 0);
        due("the first is the cheapest", first.when(1, 1), 1);
        UnsoldPrice none = open("sn0;sn1;b;lf8", "y:1");
        none.rule(0, 0);
        due("who has no goods does not count", none.when(1, 1), 8);
        due("no goods at all", open("sn0;b").when(1, 0), NONE);
    }

    private static void stranger() {
        UnsoldPrice x = open(TWO);
        due("board", x.stranger(2, 5, 0), 8);
        due("sold", x.stranger(2, 5, 1), 2);
        due("less", x.stranger(2, 5, 2), 16);
        due("left with three: they lead", x.stranger(5, 5, 0), 5);
        due("behind all others", x.stranger(2, 8, 1), 0);
        due("one sells", x.stranger(1, 0, 2), 8);
        due("may ask more than the board", x.stranger(1, 20, 0), 8);
        UnsoldPrice dear = open("sn1c0;bv20m2;lf8");
        due("sells above the board", dear.stranger(1, 20, 1), 1);
        due("unsold above the board, it leads", dear.stranger(2, 20, 0), 20);
        due("sells all", dear.stranger(1, 20, 0), 8);
        due("no goods", x.stranger(0, 5, 0), HIDDEN);
        due("99 goods", x.stranger(99, 0, 0), 0);
        due("100 goods", x.stranger(100, 5, 0), HIDDEN);
        due("asking -1", x.stranger(1, -1, 0), HIDDEN);
        due("asking 21", x.stranger(1, 21, 0), HIDDEN);
        due("no such what", x.stranger(1, 1, 3), HIDDEN);
        due("no such what", x.stranger(1, 1, -1), HIDDEN);
        UnsoldPrice next = open("s;sn5c9r1;sn6c9;bv10m9;lf8");
        Check.market(next, "sn1;bv10m9;lf8");
        due("a stranger brings nothing more", next.stranger(1, 5, 1), 1);
        due("and all is sold", next.stranger(1, 5, 0), 8);
        UnsoldPrice five = open("s;s;s;s;s;bv20m9;lf8");
        due("a sixth", five.stranger(9, 7, 1), 9);
        due("they sell nothing: 9 at 8 less", five.stranger(9, 7, 2), 72);
    }

    private static void seeAndFits() {
        UnsoldPrice x = open(THREE, "y:p-1");
        x.rule(1, 0);
        due("nothing seen: all sets", x.fits(NONE), 4);
        due("the last", x.fits(3), 3);
        due("no such one", x.fits(4), NONE);
        due("no such one", x.fits(-2), NONE);
        due("see", x.see(1, 8), 1);
        due("the second held", x.fits(NONE), 2);
        due("alone", x.fits(0), 2);
        due("or with the first", x.fits(1), 3);
        due("no such one", x.fits(2), NONE);
        due("day 0", x.see(0, 8), NONE);
        due("day 31", x.see(31, 8), NONE);
        due("board -1", x.see(1, -1), NONE);
        due("board 21", x.see(1, 21), NONE);
        due("refused, it stays", x.count(7), 1);
        due("contradicted", x.see(1, 7), 2);
        due("none", x.fits(NONE), 0);
        due("none", x.fits(0), NONE);
        for (int k = 3; k <= 20; k++) {
            due("see", x.see(30, 20), k);
        }
        due("there are 20", x.see(1, 1), NONE);
        UnsoldPrice later = open(THREE, "y:p-1");
        later.rule(1, 0);
        later.hold(0, true);
        later.see(2, 6);
        due("no others hold", later.fits(0), 0);
        later.days(1);
        due("from when it is asked", later.fits(NONE), 0);
    }

    private static void other() {
        UnsoldPrice x = open(THREE + "q1", "y:p-1");
        x.rule(1, 0);
        due("the cheapest leads: 7, then 6", x.other(0, 2, 0), 14 + 12 - 10);
        due("surplus", x.other(0, 2, 1), 6 + 8);
        due("the dearest leads: 7, then 7", x.other(1, 2, 0), 14 + 14 - 10);
        due("surplus", x.other(1, 2, 1), 6 + 6);
        due("no jumps", x.other(1, 2, 2), 0);
        due("the middle of one", x.other(2, 1, 0), 14 - 5);
        due("it stays", x.count(10), 1);
        x.days(1);
        due("of these days alone", x.other(1, 1, 0), 14 - 5);
        due("of these days alone", x.other(1, 1, 1), 6);
        due("no such law", x.other(3, 1, 0), HIDDEN);
        due("no such law", x.other(-1, 1, 0), HIDDEN);
        due("no days", x.other(0, 0, 0), HIDDEN);
        due("31 days", x.other(0, 31, 0), HIDDEN);
        due("no such what", x.other(0, 1, 3), HIDDEN);
        due("no such what", x.other(0, 1, -1), HIDDEN);
        due("jumps", open("sn1;b;lf3").other(2, 7, 2), 7);
    }

    private static void askAndMonth() {
        UnsoldPrice x = open(TWO);
        due("nothing told", x.month(30, 0), NONE);
        due("told", x.ask(1, 0, 9), 1);
        due("unlawful", x.month(1, 0), 0);
        due("the second", x.month(1, 1), 1);
        due("both", x.ask(0, 0, 20), 2);
        due("the lowest", x.month(1, 1), 0);
        due("the latest", x.ask(0, 0, 8), 3);
        due("the latest", x.ask(1, 0, 5), 4);
        due("lawful", x.month(1, 0), NONE);
        due("lawful", x.month(1, 1), NONE);
        // The second sells two at 5; the first is left with its goods at 8.
        due("the next day", x.ask(1, 1, 9), 5);
        due("a day of one alone", x.month(1, 0), NONE);
        due("the second day", x.month(2, 0), 1);
        due("the second", x.month(2, 1), 1);
        due("no such seller", x.ask(2, 0, 1), NONE);
        due("no such seller", x.ask(-1, 0, 1), NONE);
        due("day -1", x.ask(0, -1, 1), NONE);
        due("day 30", x.ask(0, 30, 1), NONE);
        due("-1", x.ask(0, 0, -1), NONE);
        due("21", x.ask(0, 0, 21), NONE);
        due("refused, it stays", x.count(8), 5);
        due("no days", x.month(0, 0), NONE);
        due("31 days", x.month(31, 0), NONE);
        due("no such what", x.month(2, 2), NONE);
        due("no such what", x.month(2, -1), NONE);
        for (int k = 6; k <= 60; k++) {
            due("told", x.ask(0, 29, 0), k);
        }
        due("there are 60", x.ask(0, 29, 0), NONE);
        UnsoldPrice holds = open(TWO, "y:1");
        holds.rule(0, 0);
        holds.rule(1, 0);
        holds.hold(0, true);
        holds.ask(0, 0, 3);
        holds.ask(1, 1, 4);
        // Who holds asks 3 and is left with its goods: the board is 3, then 4 is too much.
        due("in place of the board of who holds", holds.month(2, 0), 1);
        UnsoldPrice low = open(TWO);
        low.ask(0, 0, 3);
        low.ask(1, 0, 2);
        low.ask(0, 3, 4);
        due("from when it is asked: 3, 3, 3, then 4", low.month(4, 0), 3);
        low.days(1);
        due("from when it is asked", low.month(4, 0), 3);
    }

    private static void inTurn() {
        UnsoldPrice x = open(TWO);
        due("board", x.inTurn(1, 0), 8);
        due("gains", x.inTurn(1, 1), 12);
        due("the first holds and pays", x.inTurn(1, 2), 0);
        due("two days", x.inTurn(2, 1), 24);
        due("like gains: the lowest", x.inTurn(2, 2), 0);
        x.hold(0, true);
        x.hold(1, true);
        due("no others hold", x.inTurn(2, 1), 24);
        x.days(1);
        due("of these days alone", x.inTurn(1, 1), 12);
        UnsoldPrice again = open("sn1r9;sn1r9;bv9m1;lf8", "y:5");
        again.rule(1, 0);
        due("the first holds again on the third day", again.inTurn(3, 1), 5 + 8 + 5 - 6);
        due("the second holds again on the fourth", again.inTurn(4, 1), 5 + 8 + 5 + 8 - 8);
        UnsoldPrice second = open("sn1;sn2;sn1;bv9m3;lf8");
        due("the second pays the most", second.inTurn(2, 2), 1);
        due("no days", x.inTurn(0, 0), HIDDEN);
        due("31 days", x.inTurn(31, 0), HIDDEN);
        due("no such what", x.inTurn(1, 3), HIDDEN);
        due("no such what", x.inTurn(1, -1), HIDDEN);
        UnsoldPrice three = open("sn1;sn1;sn1;bv9m1;lf8", "y:2");
        three.rule(1, 0);
        // The second asks 2 and sells, but on the second day, when it holds: then the first sells at 8.
        due("the third sells nothing", three.inTurn(3, 2), 2);
        due("gains", three.inTurn(3, 1), 2 + 8 + 2 - 9);
        UnsoldPrice board = open("sn1c0;sn1c0;bv9m2;lf8", "y:5");
        board.rule(0, 0);
        due("the second holds on the second day", board.inTurn(2, 0), 8);
    }

    private static void bribe() {
        UnsoldPrice x = open(TWO);
        due("no such what", x.bribe(1, 2), HIDDEN);
        due("the second sells nothing", x.bribe(1, 0), 1);
        due("how much", x.bribe(1, 1), 0);
        x.hold(1, true);
        due("of those who do not hold", x.bribe(1, 0), 0);
        due("how much", x.bribe(1, 1), 16);
        x.hold(0, true);
        due("all hold", x.bribe(1, 0), NONE);
        due("all hold", x.bribe(1, 1), HIDDEN);
        due("no days", x.bribe(0, 0), HIDDEN);
        due("31 days", x.bribe(31, 0), HIDDEN);
        due("no such what", x.bribe(1, 2), HIDDEN);
        due("no such what", x.bribe(1, -1), HIDDEN);
        UnsoldPrice like = open("sn1;sn1;bv9m2;lf8");
        due("of several the lowest", like.bribe(5, 0), 0);
        due("five days at 8", like.bribe(5, 1), 40);
    }

    private static void spread() {
        UnsoldPrice x = open(THREE, "y:p-1");
        due("no spread", x.spread(3, 0), 0);
        due("sum", x.spread(3, 1), 24);
        x.rule(1, 0);
        due("8 to 5", x.spread(3, 0), 3);
        due("7 + 6 + 5", x.spread(3, 1), 18);
        due("no days", x.spread(0, 0), NONE);
        due("31 days", x.spread(31, 0), NONE);
        due("no such what", x.spread(1, 2), NONE);
        due("no such what", x.spread(1, -1), NONE);
        due("8 to 5, and 8 the board as it is", x.spread(1, 0), 1);
        x.days(2);
        due("6 to 5: none of what was ahead", x.spread(1, 0), 1);
        UnsoldPrice slow = open("sn1c0;bv3m4;lf9", "y:p-2");
        slow.rule(0, 0);
        slow.days(2);
        // From 5 a jump to 9, then 7: the jump does not cut the spread.
        due("5 to 9", slow.spread(2, 0), 4);
        due("9 + 7", slow.spread(2, 1), 16);
    }

    private static void served() {
        UnsoldPrice x = open("sn1;bv10m2w1;bv20m1;lf8");
        due("one of the dear sort a day", x.served(1, 3, 0), 3);
        due("none goes without", x.served(1, 3, 1), 0);
        due("none of the other", x.served(0, 3, 0), 0);
        due("two wait still", x.served(0, 3, 1), 4);
        x.days(1);
        due("of these days alone", x.served(1, 2, 0), 2);
        due("those who wait, too", x.served(0, 1, 1), 2);
        due("no such sort", x.served(2, 1, 0), NONE);
        due("no such sort", x.served(-1, 1, 0), NONE);
        due("no days", x.served(0, 0, 0), NONE);
        due("31 days", x.served(0, 31, 0), NONE);
        due("no such what", x.served(0, 1, 2), NONE);
        due("no such what", x.served(0, 1, -1), NONE);
        UnsoldPrice waits = open("sn1;bv10m2w1;lf8");
        due("three days: one each", waits.served(0, 3, 0), 3);
        due("one went", waits.served(0, 3, 1), 1);
    }

    private static void odds() {
        UnsoldPrice x = open("sn3;bv10m2;lf8", "y:p-1");
        x.rule(0, 0);
        due("no risk", x.odds(1, 8), 0);
        due("no risk", x.odds(1, 7), 1000000000);
        x.risk(25);
        due("a feast sells all", x.odds(1, 8), 250000000);
        due("all", x.odds(1, 7), 1000000000);
        due("two days", x.odds(2, 8), 250000000);
        due("two days", x.odds(2, 7), 437500000);
        x.risk(100);
        due("a feast each day", x.odds(10, 8), 1000000000);
        x.risk(1);
        // Ten feasts on end are one part of 10 to the 20; of 10 to the 9 parts cut, none is left.
        due("cut", x.odds(5, 20), 0);
        due("no days", x.odds(0, 0), NONE);
        due("eleven days", x.odds(11, 0), NONE);
        due("price -1", x.odds(1, -1), NONE);
        due("price 21", x.odds(1, 21), NONE);
        due("all parts", x.odds(10, 0), 1000000000);
        UnsoldPrice alike = open("sn5c0r9;bv10m4;lf8", "y:3");
        alike.rule(0, 0);
        alike.risk(33);
        // 0.33 of each part, cut, behind the way there: parts that are alike are not put together.
        long all = 1000000000L;
        for (int n = 1; n <= 10; n++) {
            due("the last day alone counts", alike.odds(n, 8), (int) lastFeasts(n, all));
        }
    }

    /** Parts with a feast on the last of n days, each way there cut by itself. */
    private static long lastFeasts(int n, long parts) {
        long feasts = parts * 33 / 100;
        return n == 1 ? feasts : lastFeasts(n - 1, feasts) + lastFeasts(n - 1, parts - feasts);
    }

    private static void lone() {
        UnsoldPrice x = open(TWO);
        due("all others hold", x.lone(1, 0), 8);
        due("takes two at 8", x.lone(1, 1), 16);
        x.hold(1, true);
        due("it does not hold for that", x.lone(1, 1), 16);
        due("the other", x.lone(0, 0), 8);
        due("no such seller", x.lone(2, 0), NONE);
        due("no such seller", x.lone(-1, 0), NONE);
        due("no such what", x.lone(0, 2), NONE);
        due("no such what", x.lone(0, -1), NONE);
        UnsoldPrice cheap = open("sn2;sn2;sn2;bv10m2;lf8", "y:1");
        cheap.rule(0, 0);
        cheap.rule(2, 0);
        due("the cheap ones hold", cheap.lone(1, 1), 16);
        due("the second holds", cheap.lone(0, 1), 16);
        due("the first two hold", cheap.lone(2, 1), 16);
        UnsoldPrice waits = open("sn9;bv10m3w1;lf8");
        waits.hold(0, true);
        waits.days(1);
        due("on this day alone", waits.lone(0, 1), 48);
        UnsoldPrice like = open("sn4c9;bv8m1;bv4m1;lf12");
        due("one at 8 or two at 4: the lowest", like.lone(0, 0), 4);
        due("takes 8, costs apart", like.lone(0, 1), 8);
        UnsoldPrice none = open("sn0;b;lf12");
        due("nothing to sell", none.lone(0, 0), 0);
        due("nothing taken", none.lone(0, 1), 0);
    }

    private static void glut() {
        UnsoldPrice x = open(TWO);
        due("day 2 and 3", x.glut(3, 0), 2);
        due("the second", x.glut(3, 1), 1);
        due("one day", x.glut(1, 0), 0);
        due("no days", x.glut(0, 0), NONE);
        due("31 days", x.glut(31, 0), NONE);
        due("no such what", x.glut(1, 2), NONE);
        due("no such what", x.glut(1, -1), NONE);
        // Four left on the second day, ahead of the night; three of them rot.
        UnsoldPrice rots = open("sn3r1;sn3r3;bv1m1;lf8");
        due("ahead of the night", rots.glut(2, 0), 1);
        due("behind the night", rots.glut(2, 1), 0);
        due("of several the lowest", open("sn3;sn3;bv1;lf8").glut(5, 1), 0);
    }

    private static void imageAndBack() {
        UnsoldPrice asked = open("s;bv1;bv2;bv3;bv4;bv5w3;lf8", "y:p-1");
        asked.rule(0, 0);
        asked.days(1);
        String once = print(asked);
        asked.image();
        asked.days(4);
        due("asked and waiting changed", print(asked).equals(once), false);
        asked.back();
        due("what was asked, who waits", print(asked).equals(once), true);
        UnsoldPrice x = open("sn2c1;sn2r1;bv10m2;bv3m1w3;lf8", "y:p-1");
        due("no image", x.back(), NONE);
        x.rule(1, 0);
        x.risk(40);
        x.seed(99);
        x.days(3);
        x.hold(0, true);
        String before = print(x);
        due("image", x.image(), 3);
        x.days(4);
        String later = print(x);
        due("it changed", before.equals(later), false);
        x.rule(0, 0);
        x.hold(0, false);
        x.hold(1, true);
        x.see(1, 1);
        x.ask(0, 0, 1);
        due("day", x.count(4), 7);
        due("back", x.back(), 3);
        due("so again", print(x).equals(before), true);
        due("seen stays", x.count(7), 1);
        due("askings stay", x.count(8), 1);
        x.days(4);
        due("draws go on as they did", print(x).equals(later), true);
        due("back once more", x.back(), 3);
        x.days(1);
        due("instead of the one ahead", x.image(), 4);
        x.days(1);
        due("the later one", x.back(), 4);
        Check.rule(x, "y:1");
        due("back", x.back(), 4);
        due("texts of rules stay", x.count(2), 2);
        x.risk(0);
        x.back();
        x.days(1);
        Check.market(x, TWO);
        due("no image of this market", x.back(), NONE);
        due("refused, it stays", x.count(0), 2);
        due("image", x.image(), 0);
        Check.tape(x, "nothing");
        due("refused", x.text(0), NONE);
        due("a market refused leaves the image", x.back(), 0);
    }

    /** All that can be asked of a market as it stands. */
    private static String print(UnsoldPrice x) {
        StringBuilder b = new StringBuilder();
        for (int what : new int[] {0, 1, 4, 5, 6, 9, 10}) {
            b.append(x.count(what)).append(' ');
        }
        for (int s = 0; s < x.count(0); s++) {
            for (int what = 0; what <= 9; what++) {
                b.append(seller(x, s, what)).append(' ');
            }
        }
        for (int s = 0; s < x.count(1); s++) {
            for (int what = 0; what <= 3; what++) {
                b.append(x.buyers(s, what)).append(' ');
            }
        }
        return b.toString();
    }

    private static void count() {
        UnsoldPrice x = open("sn2c1;sn2;bv10m2;bv1;bv2;lf8q2", "y:1", "y:2");
        x.days(2);
        x.see(1, 1);
        x.see(1, 1);
        x.see(1, 1);
        x.ask(0, 0, 0);
        Check.tape(x, "seven..");
        int[] want = {2, 3, 2, 7, 2, 8, 8, 3, 1, 8, 2};
        for (int what = 0; what < want.length; what++) {
            due("count(" + what + ")", x.count(what), want[what]);
        }
        due("count(-1)", x.count(-1), HIDDEN);
        due("count(11)", x.count(11), HIDDEN);
    }

    /** All questions with all kinds of arguments, and the market as it was behind them. */
    private static void questionsChangeNothing() {
        UnsoldPrice x = open("sn2c1;sn2r1;sn1;bv10m2;bv3m1w3;lf8", "y:p-1");
        x.rule(1, 0);
        x.risk(40);
        x.days(3);
        x.hold(0, true);
        x.ask(0, 1, 7);
        x.see(1, 7);
        String before = print(x);
        for (int a = -1; a <= 4; a++) {
            for (int what = -1; what <= 3; what++) {
                x.falls(a, what);
                x.ring(what);
                x.best(a, 1, what);
                x.rest(what);
                x.fool(a, 2, what);
                x.when(a, what);
                x.stranger(3, a, what);
                x.other(what, a, what);
                x.month(a, what);
                x.inTurn(a, what);
                x.bribe(a, what);
                x.spread(a, what);
                x.served(a, 2, what);
                x.lone(a, what);
                x.glut(a, what);
                x.seller(0, 0);
                x.buyers(a, what);
            }
            x.ahead(a);
            x.up(a, 8);
            x.fits(a);
            x.odds(a, 8);
        }
        due("as it was", print(x).equals(before), true);
        UnsoldPrice y = open("sn2c1;sn2r1;sn1;bv10m2;bv3m1w3;lf8", "y:p-1");
        y.rule(1, 0);
        y.risk(40);
        y.days(3);
        y.hold(0, true);
        x.days(20);
        y.days(20);
        due("goes on alike", print(x).equals(print(y)), true);
    }
}
